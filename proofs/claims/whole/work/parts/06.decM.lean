theorem dX12_init_0 : decode cX12_init 0 = .ok (.aload_n 0, 1) := by decide +kernel
theorem dX12_init_1 : decode cX12_init 1 = .ok (.invokespecial 1, 3) := by decide +kernel
theorem dX12_init_4 : decode cX12_init 4 = .ok (.aload_n 0, 1) := by decide +kernel
theorem dX12_init_5 : decode cX12_init 5 = .ok (.bipush 8, 2) := by decide +kernel
theorem dX12_init_7 : decode cX12_init 7 = .ok (.newarray .int, 2) := by decide +kernel
theorem dX12_init_9 : decode cX12_init 9 = .ok (.dup, 1) := by decide +kernel
theorem dX12_init_10 : decode cX12_init 10 = .ok (.iconst 0, 1) := by decide +kernel
theorem dX12_init_11 : decode cX12_init 11 = .ok (.iconst (-1), 1) := by decide +kernel
theorem dX12_init_12 : decode cX12_init 12 = .ok (.iastore, 1) := by decide +kernel
theorem dX12_init_13 : decode cX12_init 13 = .ok (.dup, 1) := by decide +kernel
theorem dX12_init_14 : decode cX12_init 14 = .ok (.iconst 1, 1) := by decide +kernel
theorem dX12_init_15 : decode cX12_init 15 = .ok (.iconst (-1), 1) := by decide +kernel
theorem dX12_init_16 : decode cX12_init 16 = .ok (.iastore, 1) := by decide +kernel
theorem dX12_init_17 : decode cX12_init 17 = .ok (.dup, 1) := by decide +kernel
theorem dX12_init_18 : decode cX12_init 18 = .ok (.iconst 2, 1) := by decide +kernel
theorem dX12_init_19 : decode cX12_init 19 = .ok (.iconst (-1), 1) := by decide +kernel
theorem dX12_init_20 : decode cX12_init 20 = .ok (.iastore, 1) := by decide +kernel
theorem dX12_init_21 : decode cX12_init 21 = .ok (.dup, 1) := by decide +kernel
theorem dX12_init_22 : decode cX12_init 22 = .ok (.iconst 3, 1) := by decide +kernel
theorem dX12_init_23 : decode cX12_init 23 = .ok (.iconst (-1), 1) := by decide +kernel
theorem dX12_init_24 : decode cX12_init 24 = .ok (.iastore, 1) := by decide +kernel
theorem dX12_init_25 : decode cX12_init 25 = .ok (.dup, 1) := by decide +kernel
theorem dX12_init_26 : decode cX12_init 26 = .ok (.iconst 4, 1) := by decide +kernel
theorem dX12_init_27 : decode cX12_init 27 = .ok (.iconst (-1), 1) := by decide +kernel
theorem dX12_init_28 : decode cX12_init 28 = .ok (.iastore, 1) := by decide +kernel
theorem dX12_init_29 : decode cX12_init 29 = .ok (.dup, 1) := by decide +kernel
theorem dX12_init_30 : decode cX12_init 30 = .ok (.iconst 5, 1) := by decide +kernel
theorem dX12_init_31 : decode cX12_init 31 = .ok (.iconst (-1), 1) := by decide +kernel
theorem dX12_init_32 : decode cX12_init 32 = .ok (.iastore, 1) := by decide +kernel
theorem dX12_init_33 : decode cX12_init 33 = .ok (.dup, 1) := by decide +kernel
theorem dX12_init_34 : decode cX12_init 34 = .ok (.bipush 6, 2) := by decide +kernel
theorem dX12_init_36 : decode cX12_init 36 = .ok (.iconst (-1), 1) := by decide +kernel
theorem dX12_init_37 : decode cX12_init 37 = .ok (.iastore, 1) := by decide +kernel
theorem dX12_init_38 : decode cX12_init 38 = .ok (.dup, 1) := by decide +kernel
theorem dX12_init_39 : decode cX12_init 39 = .ok (.bipush 7, 2) := by decide +kernel
theorem dX12_init_41 : decode cX12_init 41 = .ok (.iconst (-1), 1) := by decide +kernel
theorem dX12_init_42 : decode cX12_init 42 = .ok (.iastore, 1) := by decide +kernel
theorem dX12_init_43 : decode cX12_init 43 = .ok (.putfield 7, 3) := by decide +kernel
theorem dX12_init_46 : decode cX12_init 46 = .ok (.aload_n 0, 1) := by decide +kernel
theorem dX12_init_47 : decode cX12_init 47 = .ok (.bipush 8, 2) := by decide +kernel
theorem dX12_init_49 : decode cX12_init 49 = .ok (.newarray .int, 2) := by decide +kernel
theorem dX12_init_51 : decode cX12_init 51 = .ok (.putfield 13, 3) := by decide +kernel
theorem dX12_init_54 : decode cX12_init 54 = .ok (.aload_n 0, 1) := by decide +kernel
theorem dX12_init_55 : decode cX12_init 55 = .ok (.sipush 320, 3) := by decide +kernel
theorem dX12_init_58 : decode cX12_init 58 = .ok (.newarray .int, 2) := by decide +kernel
theorem dX12_init_60 : decode cX12_init 60 = .ok (.putfield 16, 3) := by decide +kernel
theorem dX12_init_63 : decode cX12_init 63 = .ok (.aload_n 0, 1) := by decide +kernel
theorem dX12_init_64 : decode cX12_init 64 = .ok (.bipush 43, 2) := by decide +kernel
theorem dX12_init_66 : decode cX12_init 66 = .ok (.newarray .int, 2) := by decide +kernel
theorem dX12_init_68 : decode cX12_init 68 = .ok (.putfield 19, 3) := by decide +kernel
theorem dX12_init_71 : decode cX12_init 71 = .ok (.aload_n 0, 1) := by decide +kernel
theorem dX12_init_72 : decode cX12_init 72 = .ok (.bipush 43, 2) := by decide +kernel
theorem dX12_init_74 : decode cX12_init 74 = .ok (.newarray .int, 2) := by decide +kernel
theorem dX12_init_76 : decode cX12_init 76 = .ok (.putfield 22, 3) := by decide +kernel
theorem dX12_init_79 : decode cX12_init 79 = .ok (.aload_n 0, 1) := by decide +kernel
theorem dX12_init_80 : decode cX12_init 80 = .ok (.bipush 43, 2) := by decide +kernel
theorem dX12_init_82 : decode cX12_init 82 = .ok (.newarray .int, 2) := by decide +kernel
theorem dX12_init_84 : decode cX12_init 84 = .ok (.putfield 25, 3) := by decide +kernel
theorem dX12_init_87 : decode cX12_init 87 = .ok (.aload_n 0, 1) := by decide +kernel
theorem dX12_init_88 : decode cX12_init 88 = .ok (.sipush 1032, 3) := by decide +kernel
theorem dX12_init_91 : decode cX12_init 91 = .ok (.newarray .int, 2) := by decide +kernel
theorem dX12_init_93 : decode cX12_init 93 = .ok (.putfield 28, 3) := by decide +kernel
theorem dX12_init_96 : decode cX12_init 96 = .ok (.aload_n 0, 1) := by decide +kernel
theorem dX12_init_97 : decode cX12_init 97 = .ok (.sipush 130, 3) := by decide +kernel
theorem dX12_init_100 : decode cX12_init 100 = .ok (.newarray .int, 2) := by decide +kernel
theorem dX12_init_102 : decode cX12_init 102 = .ok (.putfield 31, 3) := by decide +kernel
theorem dX12_init_105 : decode cX12_init 105 = .ok (.aload_n 0, 1) := by decide +kernel
theorem dX12_init_106 : decode cX12_init 106 = .ok (.bipush 10, 2) := by decide +kernel
theorem dX12_init_108 : decode cX12_init 108 = .ok (.newarray .int, 2) := by decide +kernel
theorem dX12_init_110 : decode cX12_init 110 = .ok (.putfield 34, 3) := by decide +kernel
theorem dX12_init_113 : decode cX12_init 113 = .ok (.aload_n 0, 1) := by decide +kernel
theorem dX12_init_114 : decode cX12_init 114 = .ok (.bipush 10, 2) := by decide +kernel
theorem dX12_init_116 : decode cX12_init 116 = .ok (.newarray .int, 2) := by decide +kernel
theorem dX12_init_118 : decode cX12_init 118 = .ok (.putfield 37, 3) := by decide +kernel
theorem dX12_init_121 : decode cX12_init 121 = .ok (.aload_n 0, 1) := by decide +kernel
theorem dX12_init_122 : decode cX12_init 122 = .ok (.bipush 11, 2) := by decide +kernel
theorem dX12_init_124 : decode cX12_init 124 = .ok (.newarray .int, 2) := by decide +kernel
theorem dX12_init_126 : decode cX12_init 126 = .ok (.putfield 40, 3) := by decide +kernel
theorem dX12_init_129 : decode cX12_init 129 = .ok (.aload_n 0, 1) := by decide +kernel
theorem dX12_init_130 : decode cX12_init 130 = .ok (.bipush 11, 2) := by decide +kernel
theorem dX12_init_132 : decode cX12_init 132 = .ok (.newarray .int, 2) := by decide +kernel
theorem dX12_init_134 : decode cX12_init 134 = .ok (.putfield 43, 3) := by decide +kernel
theorem dX12_init_137 : decode cX12_init 137 = .ok (.aload_n 0, 1) := by decide +kernel
theorem dX12_init_138 : decode cX12_init 138 = .ok (.bipush 10, 2) := by decide +kernel
theorem dX12_init_140 : decode cX12_init 140 = .ok (.newarray .int, 2) := by decide +kernel
theorem dX12_init_142 : decode cX12_init 142 = .ok (.putfield 46, 3) := by decide +kernel
theorem dX12_init_145 : decode cX12_init 145 = .ok (.aload_n 0, 1) := by decide +kernel
theorem dX12_init_146 : decode cX12_init 146 = .ok (.bipush 10, 2) := by decide +kernel
theorem dX12_init_148 : decode cX12_init 148 = .ok (.newarray .int, 2) := by decide +kernel
theorem dX12_init_150 : decode cX12_init 150 = .ok (.putfield 49, 3) := by decide +kernel
theorem dX12_init_153 : decode cX12_init 153 = .ok (.aload_n 0, 1) := by decide +kernel
theorem dX12_init_154 : decode cX12_init 154 = .ok (.bipush 11, 2) := by decide +kernel
theorem dX12_init_156 : decode cX12_init 156 = .ok (.newarray .int, 2) := by decide +kernel
theorem dX12_init_158 : decode cX12_init 158 = .ok (.putfield 52, 3) := by decide +kernel
theorem dX12_init_161 : decode cX12_init 161 = .ok (.aload_n 0, 1) := by decide +kernel
theorem dX12_init_162 : decode cX12_init 162 = .ok (.bipush 64, 2) := by decide +kernel
theorem dX12_init_164 : decode cX12_init 164 = .ok (.newarray .int, 2) := by decide +kernel
theorem dX12_init_166 : decode cX12_init 166 = .ok (.putfield 55, 3) := by decide +kernel
theorem dX12_init_169 : decode cX12_init 169 = .ok (.aload_n 0, 1) := by decide +kernel
theorem dX12_init_170 : decode cX12_init 170 = .ok (.iconst 2, 1) := by decide +kernel
theorem dX12_init_171 : decode cX12_init 171 = .ok (.newarray .boolean, 2) := by decide +kernel
theorem dX12_init_173 : decode cX12_init 173 = .ok (.putfield 58, 3) := by decide +kernel
theorem dX12_init_176 : decode cX12_init 176 = .ok (.aload_n 0, 1) := by decide +kernel
theorem dX12_init_177 : decode cX12_init 177 = .ok (.bipush 86, 2) := by decide +kernel
theorem dX12_init_179 : decode cX12_init 179 = .ok (.newarray .int, 2) := by decide +kernel
theorem dX12_init_181 : decode cX12_init 181 = .ok (.putfield 62, 3) := by decide +kernel
theorem dX12_init_184 : decode cX12_init 184 = .ok (.aload_n 0, 1) := by decide +kernel
theorem dX12_init_185 : decode cX12_init 185 = .ok (.bipush 16, 2) := by decide +kernel
theorem dX12_init_187 : decode cX12_init 187 = .ok (.newarray .int, 2) := by decide +kernel
theorem dX12_init_189 : decode cX12_init 189 = .ok (.putfield 65, 3) := by decide +kernel
theorem dX12_init_192 : decode cX12_init 192 = .ok (.return_, 1) := by decide +kernel
theorem dX12_in_0 : decode cX12_in 0 = .ok (.lload_n 0, 1) := by decide +kernel
theorem dX12_in_1 : decode cX12_in 1 = .ok (.lload_n 2, 1) := by decide +kernel
theorem dX12_in_2 : decode cX12_in 2 = .ok (.lcmp, 1) := by decide +kernel
theorem dX12_in_3 : decode cX12_in 3 = .ok (.ifCond .lt 14, 3) := by decide +kernel
theorem dX12_in_6 : decode cX12_in 6 = .ok (.lload_n 0, 1) := by decide +kernel
theorem dX12_in_7 : decode cX12_in 7 = .ok (.lload 4, 2) := by decide +kernel
theorem dX12_in_9 : decode cX12_in 9 = .ok (.lcmp, 1) := by decide +kernel
theorem dX12_in_10 : decode cX12_in 10 = .ok (.ifCond .gt 7, 3) := by decide +kernel
theorem dX12_in_13 : decode cX12_in 13 = .ok (.iconst 1, 1) := by decide +kernel
theorem dX12_in_14 : decode cX12_in 14 = .ok (.goto 4, 3) := by decide +kernel
theorem dX12_in_17 : decode cX12_in 17 = .ok (.iconst 0, 1) := by decide +kernel
theorem dX12_in_18 : decode cX12_in 18 = .ok (.ireturn, 1) := by decide +kernel
theorem dX12_finding_0 : decode cX12_finding 0 = .ok (.aload_n 0, 1) := by decide +kernel
theorem dX12_finding_1 : decode cX12_finding 1 = .ok (.iload_n 1, 1) := by decide +kernel
theorem dX12_finding_2 : decode cX12_finding 2 = .ok (.putfield 68, 3) := by decide +kernel
theorem dX12_finding_5 : decode cX12_finding 5 = .ok (.ldc 72, 2) := by decide +kernel
theorem dX12_finding_7 : decode cX12_finding 7 = .ok (.iload_n 1, 1) := by decide +kernel
theorem dX12_finding_8 : decode cX12_finding 8 = .ok (.isub, 1) := by decide +kernel
theorem dX12_finding_9 : decode cX12_finding 9 = .ok (.ireturn, 1) := by decide +kernel
theorem dX12_isRow_0 : decode cX12_isRow 0 = .ok (.iload_n 0, 1) := by decide +kernel
theorem dX12_isRow_1 : decode cX12_isRow 1 = .ok (.i2l, 1) := by decide +kernel
theorem dX12_isRow_2 : decode cX12_isRow 2 = .ok (.lconst 0, 1) := by decide +kernel
theorem dX12_isRow_3 : decode cX12_isRow 3 = .ok (.ldc2_w 73, 3) := by decide +kernel
theorem dX12_isRow_6 : decode cX12_isRow 6 = .ok (.invokestatic 75, 3) := by decide +kernel
theorem dX12_isRow_9 : decode cX12_isRow 9 = .ok (.ireturn, 1) := by decide +kernel
theorem dX12_row_0 : decode cX12_row 0 = .ok (.iload_n 1, 1) := by decide +kernel
theorem dX12_row_1 : decode cX12_row 1 = .ok (.invokestatic 79, 3) := by decide +kernel
theorem dX12_row_4 : decode cX12_row 4 = .ok (.ifCond .eq 21, 3) := by decide +kernel
theorem dX12_row_7 : decode cX12_row 7 = .ok (.iload_n 2, 1) := by decide +kernel
theorem dX12_row_8 : decode cX12_row 8 = .ok (.i2l, 1) := by decide +kernel
theorem dX12_row_9 : decode cX12_row 9 = .ok (.lconst 0, 1) := by decide +kernel
theorem dX12_row_10 : decode cX12_row 10 = .ok (.ldc2_w 83, 3) := by decide +kernel
theorem dX12_row_13 : decode cX12_row 13 = .ok (.invokestatic 75, 3) := by decide +kernel
theorem dX12_row_16 : decode cX12_row 16 = .ok (.ifCond .eq 9, 3) := by decide +kernel
theorem dX12_row_19 : decode cX12_row 19 = .ok (.iload_n 3, 1) := by decide +kernel
theorem dX12_row_20 : decode cX12_row 20 = .ok (.bipush 40, 2) := by decide +kernel
theorem dX12_row_22 : decode cX12_row 22 = .ok (.if_icmp .le 6, 3) := by decide +kernel
theorem dX12_row_25 : decode cX12_row 25 = .ok (.ldc 85, 2) := by decide +kernel
theorem dX12_row_27 : decode cX12_row 27 = .ok (.ireturn, 1) := by decide +kernel
theorem dX12_row_28 : decode cX12_row 28 = .ok (.aload_n 0, 1) := by decide +kernel
theorem dX12_row_29 : decode cX12_row 29 = .ok (.iconst 0, 1) := by decide +kernel
theorem dX12_row_30 : decode cX12_row 30 = .ok (.putfield 68, 3) := by decide +kernel
theorem dX12_row_33 : decode cX12_row 33 = .ok (.iload_n 3, 1) := by decide +kernel
theorem dX12_row_34 : decode cX12_row 34 = .ok (.ifCond .ge 9, 3) := by decide +kernel
theorem dX12_row_37 : decode cX12_row 37 = .ok (.aload_n 0, 1) := by decide +kernel
theorem dX12_row_38 : decode cX12_row 38 = .ok (.iconst 4, 1) := by decide +kernel
theorem dX12_row_39 : decode cX12_row 39 = .ok (.invokevirtual 86, 3) := by decide +kernel
theorem dX12_row_42 : decode cX12_row 42 = .ok (.ireturn, 1) := by decide +kernel
theorem dX12_row_43 : decode cX12_row 43 = .ok (.aload_n 0, 1) := by decide +kernel
theorem dX12_row_44 : decode cX12_row 44 = .ok (.getfield 7, 3) := by decide +kernel
theorem dX12_row_47 : decode cX12_row 47 = .ok (.iload_n 1, 1) := by decide +kernel
theorem dX12_row_48 : decode cX12_row 48 = .ok (.iload_n 2, 1) := by decide +kernel
theorem dX12_row_49 : decode cX12_row 49 = .ok (.iastore, 1) := by decide +kernel
theorem dX12_row_50 : decode cX12_row 50 = .ok (.aload_n 0, 1) := by decide +kernel
theorem dX12_row_51 : decode cX12_row 51 = .ok (.getfield 13, 3) := by decide +kernel
theorem dX12_row_54 : decode cX12_row 54 = .ok (.iload_n 1, 1) := by decide +kernel
theorem dX12_row_55 : decode cX12_row 55 = .ok (.iload_n 3, 1) := by decide +kernel
theorem dX12_row_56 : decode cX12_row 56 = .ok (.iastore, 1) := by decide +kernel
theorem dX12_row_57 : decode cX12_row 57 = .ok (.iconst 0, 1) := by decide +kernel
theorem dX12_row_58 : decode cX12_row 58 = .ok (.istore 4, 2) := by decide +kernel
theorem dX12_row_60 : decode cX12_row 60 = .ok (.iload 4, 2) := by decide +kernel
theorem dX12_row_62 : decode cX12_row 62 = .ok (.bipush 40, 2) := by decide +kernel
theorem dX12_row_64 : decode cX12_row 64 = .ok (.if_icmp .ge 22, 3) := by decide +kernel
theorem dX12_row_67 : decode cX12_row 67 = .ok (.aload_n 0, 1) := by decide +kernel
theorem dX12_row_68 : decode cX12_row 68 = .ok (.getfield 16, 3) := by decide +kernel
theorem dX12_row_71 : decode cX12_row 71 = .ok (.bipush 40, 2) := by decide +kernel
theorem dX12_row_73 : decode cX12_row 73 = .ok (.iload_n 1, 1) := by decide +kernel
theorem dX12_row_74 : decode cX12_row 74 = .ok (.imul, 1) := by decide +kernel
theorem dX12_row_75 : decode cX12_row 75 = .ok (.iload 4, 2) := by decide +kernel
theorem dX12_row_77 : decode cX12_row 77 = .ok (.iadd, 1) := by decide +kernel
theorem dX12_row_78 : decode cX12_row 78 = .ok (.iconst 0, 1) := by decide +kernel
theorem dX12_row_79 : decode cX12_row 79 = .ok (.iastore, 1) := by decide +kernel
theorem dX12_row_80 : decode cX12_row 80 = .ok (.iinc 4 1, 3) := by decide +kernel
theorem dX12_row_83 : decode cX12_row 83 = .ok (.goto (-23), 3) := by decide +kernel
theorem dX12_row_86 : decode cX12_row 86 = .ok (.iload_n 3, 1) := by decide +kernel
theorem dX12_row_87 : decode cX12_row 87 = .ok (.ireturn, 1) := by decide +kernel
theorem dX12_set_0 : decode cX12_set 0 = .ok (.iload_n 1, 1) := by decide +kernel
theorem dX12_set_1 : decode cX12_set 1 = .ok (.invokestatic 79, 3) := by decide +kernel
theorem dX12_set_4 : decode cX12_set 4 = .ok (.ifCond .ne 6, 3) := by decide +kernel
theorem dX12_set_7 : decode cX12_set 7 = .ok (.ldc 85, 2) := by decide +kernel
theorem dX12_set_9 : decode cX12_set 9 = .ok (.ireturn, 1) := by decide +kernel
theorem dX12_set_10 : decode cX12_set 10 = .ok (.aload_n 0, 1) := by decide +kernel
theorem dX12_set_11 : decode cX12_set 11 = .ok (.iconst 0, 1) := by decide +kernel
theorem dX12_set_12 : decode cX12_set 12 = .ok (.putfield 68, 3) := by decide +kernel
theorem dX12_set_15 : decode cX12_set 15 = .ok (.aload_n 0, 1) := by decide +kernel
theorem dX12_set_16 : decode cX12_set 16 = .ok (.getfield 7, 3) := by decide +kernel
theorem dX12_set_19 : decode cX12_set 19 = .ok (.iload_n 1, 1) := by decide +kernel
theorem dX12_set_20 : decode cX12_set 20 = .ok (.iaload, 1) := by decide +kernel
theorem dX12_set_21 : decode cX12_set 21 = .ok (.ifCond .ge 9, 3) := by decide +kernel
theorem dX12_set_24 : decode cX12_set 24 = .ok (.aload_n 0, 1) := by decide +kernel
theorem dX12_set_25 : decode cX12_set 25 = .ok (.iconst 1, 1) := by decide +kernel
theorem dX12_set_26 : decode cX12_set 26 = .ok (.invokevirtual 86, 3) := by decide +kernel
theorem dX12_set_29 : decode cX12_set 29 = .ok (.ireturn, 1) := by decide +kernel
theorem dX12_set_30 : decode cX12_set 30 = .ok (.iload_n 2, 1) := by decide +kernel
theorem dX12_set_31 : decode cX12_set 31 = .ok (.i2l, 1) := by decide +kernel
theorem dX12_set_32 : decode cX12_set 32 = .ok (.lconst 0, 1) := by decide +kernel
theorem dX12_set_33 : decode cX12_set 33 = .ok (.aload_n 0, 1) := by decide +kernel
theorem dX12_set_34 : decode cX12_set 34 = .ok (.getfield 13, 3) := by decide +kernel
theorem dX12_set_37 : decode cX12_set 37 = .ok (.iload_n 1, 1) := by decide +kernel
theorem dX12_set_38 : decode cX12_set 38 = .ok (.iaload, 1) := by decide +kernel
theorem dX12_set_39 : decode cX12_set 39 = .ok (.iconst 1, 1) := by decide +kernel
theorem dX12_set_40 : decode cX12_set 40 = .ok (.isub, 1) := by decide +kernel
theorem dX12_set_41 : decode cX12_set 41 = .ok (.i2l, 1) := by decide +kernel
theorem dX12_set_42 : decode cX12_set 42 = .ok (.invokestatic 75, 3) := by decide +kernel
theorem dX12_set_45 : decode cX12_set 45 = .ok (.ifCond .ne 9, 3) := by decide +kernel
theorem dX12_set_48 : decode cX12_set 48 = .ok (.aload_n 0, 1) := by decide +kernel
theorem dX12_set_49 : decode cX12_set 49 = .ok (.iconst 2, 1) := by decide +kernel
theorem dX12_set_50 : decode cX12_set 50 = .ok (.invokevirtual 86, 3) := by decide +kernel
theorem dX12_set_53 : decode cX12_set 53 = .ok (.ireturn, 1) := by decide +kernel
theorem dX12_set_54 : decode cX12_set 54 = .ok (.aload_n 0, 1) := by decide +kernel
theorem dX12_set_55 : decode cX12_set 55 = .ok (.getfield 16, 3) := by decide +kernel
theorem dX12_set_58 : decode cX12_set 58 = .ok (.bipush 40, 2) := by decide +kernel
theorem dX12_set_60 : decode cX12_set 60 = .ok (.iload_n 1, 1) := by decide +kernel
theorem dX12_set_61 : decode cX12_set 61 = .ok (.imul, 1) := by decide +kernel
theorem dX12_set_62 : decode cX12_set 62 = .ok (.iload_n 2, 1) := by decide +kernel
theorem dX12_set_63 : decode cX12_set 63 = .ok (.iadd, 1) := by decide +kernel
theorem dX12_set_64 : decode cX12_set 64 = .ok (.aload_n 0, 1) := by decide +kernel
theorem dX12_set_65 : decode cX12_set 65 = .ok (.getfield 7, 3) := by decide +kernel
theorem dX12_set_68 : decode cX12_set 68 = .ok (.iload_n 1, 1) := by decide +kernel
theorem dX12_set_69 : decode cX12_set 69 = .ok (.iaload, 1) := by decide +kernel
theorem dX12_set_70 : decode cX12_set 70 = .ok (.ifCond .ne 8, 3) := by decide +kernel
theorem dX12_set_73 : decode cX12_set 73 = .ok (.iload_n 3, 1) := by decide +kernel
theorem dX12_set_74 : decode cX12_set 74 = .ok (.i2b, 1) := by decide +kernel
theorem dX12_set_75 : decode cX12_set 75 = .ok (.goto 19, 3) := by decide +kernel
theorem dX12_set_78 : decode cX12_set 78 = .ok (.aload_n 0, 1) := by decide +kernel
theorem dX12_set_79 : decode cX12_set 79 = .ok (.getfield 7, 3) := by decide +kernel
theorem dX12_set_82 : decode cX12_set 82 = .ok (.iload_n 1, 1) := by decide +kernel
theorem dX12_set_83 : decode cX12_set 83 = .ok (.iaload, 1) := by decide +kernel
theorem dX12_set_84 : decode cX12_set 84 = .ok (.iconst 1, 1) := by decide +kernel
theorem dX12_set_85 : decode cX12_set 85 = .ok (.if_icmp .ne 8, 3) := by decide +kernel
theorem dX12_set_88 : decode cX12_set 88 = .ok (.iload_n 3, 1) := by decide +kernel
theorem dX12_set_89 : decode cX12_set 89 = .ok (.i2s, 1) := by decide +kernel
theorem dX12_set_90 : decode cX12_set 90 = .ok (.goto 4, 3) := by decide +kernel
theorem dX12_set_93 : decode cX12_set 93 = .ok (.iload_n 3, 1) := by decide +kernel
theorem dX12_set_94 : decode cX12_set 94 = .ok (.iastore, 1) := by decide +kernel
theorem dX12_set_95 : decode cX12_set 95 = .ok (.aload_n 0, 1) := by decide +kernel
theorem dX12_set_96 : decode cX12_set 96 = .ok (.getfield 16, 3) := by decide +kernel
theorem dX12_set_99 : decode cX12_set 99 = .ok (.bipush 40, 2) := by decide +kernel
theorem dX12_set_101 : decode cX12_set 101 = .ok (.iload_n 1, 1) := by decide +kernel
theorem dX12_set_102 : decode cX12_set 102 = .ok (.imul, 1) := by decide +kernel
theorem dX12_set_103 : decode cX12_set 103 = .ok (.iload_n 2, 1) := by decide +kernel
theorem dX12_set_104 : decode cX12_set 104 = .ok (.iadd, 1) := by decide +kernel
theorem dX12_set_105 : decode cX12_set 105 = .ok (.iaload, 1) := by decide +kernel
theorem dX12_set_106 : decode cX12_set 106 = .ok (.ireturn, 1) := by decide +kernel
theorem dX12_copy_0 : decode cX12_copy 0 = .ok (.iload_n 1, 1) := by decide +kernel
theorem dX12_copy_1 : decode cX12_copy 1 = .ok (.invokestatic 79, 3) := by decide +kernel
theorem dX12_copy_4 : decode cX12_copy 4 = .ok (.ifCond .eq 10, 3) := by decide +kernel
theorem dX12_copy_7 : decode cX12_copy 7 = .ok (.iload_n 3, 1) := by decide +kernel
theorem dX12_copy_8 : decode cX12_copy 8 = .ok (.invokestatic 79, 3) := by decide +kernel
theorem dX12_copy_11 : decode cX12_copy 11 = .ok (.ifCond .ne 6, 3) := by decide +kernel
theorem dX12_copy_14 : decode cX12_copy 14 = .ok (.ldc 85, 2) := by decide +kernel
theorem dX12_copy_16 : decode cX12_copy 16 = .ok (.ireturn, 1) := by decide +kernel
theorem dX12_copy_17 : decode cX12_copy 17 = .ok (.aload_n 0, 1) := by decide +kernel
theorem dX12_copy_18 : decode cX12_copy 18 = .ok (.iconst 0, 1) := by decide +kernel
theorem dX12_copy_19 : decode cX12_copy 19 = .ok (.putfield 68, 3) := by decide +kernel
theorem dX12_copy_22 : decode cX12_copy 22 = .ok (.aload_n 0, 1) := by decide +kernel
theorem dX12_copy_23 : decode cX12_copy 23 = .ok (.getfield 7, 3) := by decide +kernel
theorem dX12_copy_26 : decode cX12_copy 26 = .ok (.iload_n 1, 1) := by decide +kernel
theorem dX12_copy_27 : decode cX12_copy 27 = .ok (.iaload, 1) := by decide +kernel
theorem dX12_copy_28 : decode cX12_copy 28 = .ok (.ifCond .lt 12, 3) := by decide +kernel
theorem dX12_copy_31 : decode cX12_copy 31 = .ok (.aload_n 0, 1) := by decide +kernel
theorem dX12_copy_32 : decode cX12_copy 32 = .ok (.getfield 7, 3) := by decide +kernel
theorem dX12_copy_35 : decode cX12_copy 35 = .ok (.iload_n 3, 1) := by decide +kernel
theorem dX12_copy_36 : decode cX12_copy 36 = .ok (.iaload, 1) := by decide +kernel
theorem dX12_copy_37 : decode cX12_copy 37 = .ok (.ifCond .ge 9, 3) := by decide +kernel
theorem dX12_copy_40 : decode cX12_copy 40 = .ok (.aload_n 0, 1) := by decide +kernel
theorem dX12_copy_41 : decode cX12_copy 41 = .ok (.iconst 1, 1) := by decide +kernel
theorem dX12_copy_42 : decode cX12_copy 42 = .ok (.invokevirtual 86, 3) := by decide +kernel
theorem dX12_copy_45 : decode cX12_copy 45 = .ok (.ireturn, 1) := by decide +kernel
theorem dX12_copy_46 : decode cX12_copy 46 = .ok (.aload_n 0, 1) := by decide +kernel
theorem dX12_copy_47 : decode cX12_copy 47 = .ok (.getfield 7, 3) := by decide +kernel
theorem dX12_copy_50 : decode cX12_copy 50 = .ok (.iload_n 1, 1) := by decide +kernel
theorem dX12_copy_51 : decode cX12_copy 51 = .ok (.iaload, 1) := by decide +kernel
theorem dX12_copy_52 : decode cX12_copy 52 = .ok (.aload_n 0, 1) := by decide +kernel
theorem dX12_copy_53 : decode cX12_copy 53 = .ok (.getfield 7, 3) := by decide +kernel
theorem dX12_copy_56 : decode cX12_copy 56 = .ok (.iload_n 3, 1) := by decide +kernel
theorem dX12_copy_57 : decode cX12_copy 57 = .ok (.iaload, 1) := by decide +kernel
theorem dX12_copy_58 : decode cX12_copy 58 = .ok (.if_icmp .eq 9, 3) := by decide +kernel
theorem dX12_copy_61 : decode cX12_copy 61 = .ok (.aload_n 0, 1) := by decide +kernel
theorem dX12_copy_62 : decode cX12_copy 62 = .ok (.iconst 5, 1) := by decide +kernel
theorem dX12_copy_63 : decode cX12_copy 63 = .ok (.invokevirtual 86, 3) := by decide +kernel
theorem dX12_copy_66 : decode cX12_copy 66 = .ok (.ireturn, 1) := by decide +kernel
theorem dX12_copy_67 : decode cX12_copy 67 = .ok (.iload_n 2, 1) := by decide +kernel
theorem dX12_copy_68 : decode cX12_copy 68 = .ok (.ifCond .lt 48, 3) := by decide +kernel
theorem dX12_copy_71 : decode cX12_copy 71 = .ok (.iload 4, 2) := by decide +kernel
theorem dX12_copy_73 : decode cX12_copy 73 = .ok (.ifCond .lt 43, 3) := by decide +kernel
theorem dX12_copy_76 : decode cX12_copy 76 = .ok (.iload 5, 2) := by decide +kernel
theorem dX12_copy_78 : decode cX12_copy 78 = .ok (.ifCond .lt 38, 3) := by decide +kernel
theorem dX12_copy_81 : decode cX12_copy 81 = .ok (.iload_n 2, 1) := by decide +kernel
theorem dX12_copy_82 : decode cX12_copy 82 = .ok (.i2l, 1) := by decide +kernel
theorem dX12_copy_83 : decode cX12_copy 83 = .ok (.iload 5, 2) := by decide +kernel
theorem dX12_copy_85 : decode cX12_copy 85 = .ok (.i2l, 1) := by decide +kernel
theorem dX12_copy_86 : decode cX12_copy 86 = .ok (.ladd, 1) := by decide +kernel
theorem dX12_copy_87 : decode cX12_copy 87 = .ok (.aload_n 0, 1) := by decide +kernel
theorem dX12_copy_88 : decode cX12_copy 88 = .ok (.getfield 13, 3) := by decide +kernel
theorem dX12_copy_91 : decode cX12_copy 91 = .ok (.iload_n 1, 1) := by decide +kernel
theorem dX12_copy_92 : decode cX12_copy 92 = .ok (.iaload, 1) := by decide +kernel
theorem dX12_copy_93 : decode cX12_copy 93 = .ok (.i2l, 1) := by decide +kernel
theorem dX12_copy_94 : decode cX12_copy 94 = .ok (.lcmp, 1) := by decide +kernel
theorem dX12_copy_95 : decode cX12_copy 95 = .ok (.ifCond .gt 21, 3) := by decide +kernel
theorem dX12_copy_98 : decode cX12_copy 98 = .ok (.iload 4, 2) := by decide +kernel
theorem dX12_copy_100 : decode cX12_copy 100 = .ok (.i2l, 1) := by decide +kernel
theorem dX12_copy_101 : decode cX12_copy 101 = .ok (.iload 5, 2) := by decide +kernel
theorem dX12_copy_103 : decode cX12_copy 103 = .ok (.i2l, 1) := by decide +kernel
theorem dX12_copy_104 : decode cX12_copy 104 = .ok (.ladd, 1) := by decide +kernel
theorem dX12_copy_105 : decode cX12_copy 105 = .ok (.aload_n 0, 1) := by decide +kernel
theorem dX12_copy_106 : decode cX12_copy 106 = .ok (.getfield 13, 3) := by decide +kernel
theorem dX12_copy_109 : decode cX12_copy 109 = .ok (.iload_n 3, 1) := by decide +kernel
theorem dX12_copy_110 : decode cX12_copy 110 = .ok (.iaload, 1) := by decide +kernel
theorem dX12_copy_111 : decode cX12_copy 111 = .ok (.i2l, 1) := by decide +kernel
theorem dX12_copy_112 : decode cX12_copy 112 = .ok (.lcmp, 1) := by decide +kernel
theorem dX12_copy_113 : decode cX12_copy 113 = .ok (.ifCond .le 9, 3) := by decide +kernel
theorem dX12_copy_116 : decode cX12_copy 116 = .ok (.aload_n 0, 1) := by decide +kernel
theorem dX12_copy_117 : decode cX12_copy 117 = .ok (.iconst 2, 1) := by decide +kernel
theorem dX12_copy_118 : decode cX12_copy 118 = .ok (.invokevirtual 86, 3) := by decide +kernel
theorem dX12_copy_121 : decode cX12_copy 121 = .ok (.ireturn, 1) := by decide +kernel
theorem dX12_copy_122 : decode cX12_copy 122 = .ok (.iload_n 2, 1) := by decide +kernel
theorem dX12_copy_123 : decode cX12_copy 123 = .ok (.iload 4, 2) := by decide +kernel
theorem dX12_copy_125 : decode cX12_copy 125 = .ok (.if_icmp .lt 7, 3) := by decide +kernel
theorem dX12_copy_128 : decode cX12_copy 128 = .ok (.iconst 1, 1) := by decide +kernel
theorem dX12_copy_129 : decode cX12_copy 129 = .ok (.goto 4, 3) := by decide +kernel
theorem dX12_copy_132 : decode cX12_copy 132 = .ok (.iconst 0, 1) := by decide +kernel
theorem dX12_copy_133 : decode cX12_copy 133 = .ok (.istore 6, 2) := by decide +kernel
theorem dX12_copy_135 : decode cX12_copy 135 = .ok (.iconst 0, 1) := by decide +kernel
theorem dX12_copy_136 : decode cX12_copy 136 = .ok (.istore 7, 2) := by decide +kernel
theorem dX12_copy_138 : decode cX12_copy 138 = .ok (.iload 7, 2) := by decide +kernel
theorem dX12_copy_140 : decode cX12_copy 140 = .ok (.iload 5, 2) := by decide +kernel
theorem dX12_copy_142 : decode cX12_copy 142 = .ok (.if_icmp .ge 57, 3) := by decide +kernel
theorem dX12_copy_145 : decode cX12_copy 145 = .ok (.iload 6, 2) := by decide +kernel
theorem dX12_copy_147 : decode cX12_copy 147 = .ok (.ifCond .eq 8, 3) := by decide +kernel
theorem dX12_copy_150 : decode cX12_copy 150 = .ok (.iload 7, 2) := by decide +kernel
theorem dX12_copy_152 : decode cX12_copy 152 = .ok (.goto 10, 3) := by decide +kernel
theorem dX12_copy_155 : decode cX12_copy 155 = .ok (.iload 5, 2) := by decide +kernel
theorem dX12_copy_157 : decode cX12_copy 157 = .ok (.iconst 1, 1) := by decide +kernel
theorem dX12_copy_158 : decode cX12_copy 158 = .ok (.isub, 1) := by decide +kernel
theorem dX12_copy_159 : decode cX12_copy 159 = .ok (.iload 7, 2) := by decide +kernel
theorem dX12_copy_161 : decode cX12_copy 161 = .ok (.isub, 1) := by decide +kernel
theorem dX12_copy_162 : decode cX12_copy 162 = .ok (.istore 8, 2) := by decide +kernel
theorem dX12_copy_164 : decode cX12_copy 164 = .ok (.aload_n 0, 1) := by decide +kernel
theorem dX12_copy_165 : decode cX12_copy 165 = .ok (.getfield 16, 3) := by decide +kernel
theorem dX12_copy_168 : decode cX12_copy 168 = .ok (.bipush 40, 2) := by decide +kernel
theorem dX12_copy_170 : decode cX12_copy 170 = .ok (.iload_n 3, 1) := by decide +kernel
theorem dX12_copy_171 : decode cX12_copy 171 = .ok (.imul, 1) := by decide +kernel
theorem dX12_copy_172 : decode cX12_copy 172 = .ok (.iload 4, 2) := by decide +kernel
theorem dX12_copy_174 : decode cX12_copy 174 = .ok (.iadd, 1) := by decide +kernel
theorem dX12_copy_175 : decode cX12_copy 175 = .ok (.iload 8, 2) := by decide +kernel
theorem dX12_copy_177 : decode cX12_copy 177 = .ok (.iadd, 1) := by decide +kernel
theorem dX12_copy_178 : decode cX12_copy 178 = .ok (.aload_n 0, 1) := by decide +kernel
theorem dX12_copy_179 : decode cX12_copy 179 = .ok (.getfield 16, 3) := by decide +kernel
theorem dX12_copy_182 : decode cX12_copy 182 = .ok (.bipush 40, 2) := by decide +kernel
theorem dX12_copy_184 : decode cX12_copy 184 = .ok (.iload_n 1, 1) := by decide +kernel
theorem dX12_copy_185 : decode cX12_copy 185 = .ok (.imul, 1) := by decide +kernel
theorem dX12_copy_186 : decode cX12_copy 186 = .ok (.iload_n 2, 1) := by decide +kernel
theorem dX12_copy_187 : decode cX12_copy 187 = .ok (.iadd, 1) := by decide +kernel
theorem dX12_copy_188 : decode cX12_copy 188 = .ok (.iload 8, 2) := by decide +kernel
theorem dX12_copy_190 : decode cX12_copy 190 = .ok (.iadd, 1) := by decide +kernel
theorem dX12_copy_191 : decode cX12_copy 191 = .ok (.iaload, 1) := by decide +kernel
theorem dX12_copy_192 : decode cX12_copy 192 = .ok (.iastore, 1) := by decide +kernel
theorem dX12_copy_193 : decode cX12_copy 193 = .ok (.iinc 7 1, 3) := by decide +kernel
theorem dX12_copy_196 : decode cX12_copy 196 = .ok (.goto (-58), 3) := by decide +kernel
theorem dX12_copy_199 : decode cX12_copy 199 = .ok (.iload 5, 2) := by decide +kernel
theorem dX12_copy_201 : decode cX12_copy 201 = .ok (.ireturn, 1) := by decide +kernel
theorem dX12_drop_0 : decode cX12_drop 0 = .ok (.iload_n 1, 1) := by decide +kernel
theorem dX12_drop_1 : decode cX12_drop 1 = .ok (.invokestatic 79, 3) := by decide +kernel
theorem dX12_drop_4 : decode cX12_drop 4 = .ok (.ifCond .ne 6, 3) := by decide +kernel
theorem dX12_drop_7 : decode cX12_drop 7 = .ok (.ldc 85, 2) := by decide +kernel
theorem dX12_drop_9 : decode cX12_drop 9 = .ok (.ireturn, 1) := by decide +kernel
theorem dX12_drop_10 : decode cX12_drop 10 = .ok (.aload_n 0, 1) := by decide +kernel
theorem dX12_drop_11 : decode cX12_drop 11 = .ok (.iconst 0, 1) := by decide +kernel
theorem dX12_drop_12 : decode cX12_drop 12 = .ok (.putfield 68, 3) := by decide +kernel
theorem dX12_drop_15 : decode cX12_drop 15 = .ok (.aload_n 0, 1) := by decide +kernel
theorem dX12_drop_16 : decode cX12_drop 16 = .ok (.getfield 7, 3) := by decide +kernel
theorem dX12_drop_19 : decode cX12_drop 19 = .ok (.iload_n 1, 1) := by decide +kernel
theorem dX12_drop_20 : decode cX12_drop 20 = .ok (.iaload, 1) := by decide +kernel
theorem dX12_drop_21 : decode cX12_drop 21 = .ok (.ifCond .ge 9, 3) := by decide +kernel
theorem dX12_drop_24 : decode cX12_drop 24 = .ok (.aload_n 0, 1) := by decide +kernel
theorem dX12_drop_25 : decode cX12_drop 25 = .ok (.iconst 1, 1) := by decide +kernel
theorem dX12_drop_26 : decode cX12_drop 26 = .ok (.invokevirtual 86, 3) := by decide +kernel
theorem dX12_drop_29 : decode cX12_drop 29 = .ok (.ireturn, 1) := by decide +kernel
theorem dX12_drop_30 : decode cX12_drop 30 = .ok (.aload_n 0, 1) := by decide +kernel
theorem dX12_drop_31 : decode cX12_drop 31 = .ok (.getfield 7, 3) := by decide +kernel
theorem dX12_drop_34 : decode cX12_drop 34 = .ok (.iload_n 1, 1) := by decide +kernel
theorem dX12_drop_35 : decode cX12_drop 35 = .ok (.iconst (-1), 1) := by decide +kernel
theorem dX12_drop_36 : decode cX12_drop 36 = .ok (.iastore, 1) := by decide +kernel
theorem dX12_drop_37 : decode cX12_drop 37 = .ok (.aload_n 0, 1) := by decide +kernel
theorem dX12_drop_38 : decode cX12_drop 38 = .ok (.getfield 13, 3) := by decide +kernel
theorem dX12_drop_41 : decode cX12_drop 41 = .ok (.iload_n 1, 1) := by decide +kernel
theorem dX12_drop_42 : decode cX12_drop 42 = .ok (.iaload, 1) := by decide +kernel
theorem dX12_drop_43 : decode cX12_drop 43 = .ok (.ireturn, 1) := by decide +kernel
theorem dX12_isThere_0 : decode cX12_isThere 0 = .ok (.aload_n 0, 1) := by decide +kernel
theorem dX12_isThere_1 : decode cX12_isThere 1 = .ok (.getfield 19, 3) := by decide +kernel
theorem dX12_isThere_4 : decode cX12_isThere 4 = .ok (.iconst 0, 1) := by decide +kernel
theorem dX12_isThere_5 : decode cX12_isThere 5 = .ok (.iaload, 1) := by decide +kernel
theorem dX12_isThere_6 : decode cX12_isThere 6 = .ok (.ifCond .le 7, 3) := by decide +kernel
theorem dX12_isThere_9 : decode cX12_isThere 9 = .ok (.iconst 1, 1) := by decide +kernel
theorem dX12_isThere_10 : decode cX12_isThere 10 = .ok (.goto 4, 3) := by decide +kernel
theorem dX12_isThere_13 : decode cX12_isThere 13 = .ok (.iconst 0, 1) := by decide +kernel
theorem dX12_isThere_14 : decode cX12_isThere 14 = .ok (.ireturn, 1) := by decide +kernel
theorem dX12_isPage_0 : decode cX12_isPage 0 = .ok (.iload_n 1, 1) := by decide +kernel
theorem dX12_isPage_1 : decode cX12_isPage 1 = .ok (.i2l, 1) := by decide +kernel
theorem dX12_isPage_2 : decode cX12_isPage 2 = .ok (.lconst 0, 1) := by decide +kernel
theorem dX12_isPage_3 : decode cX12_isPage 3 = .ok (.aload_n 0, 1) := by decide +kernel
theorem dX12_isPage_4 : decode cX12_isPage 4 = .ok (.getfield 19, 3) := by decide +kernel
theorem dX12_isPage_7 : decode cX12_isPage 7 = .ok (.iconst 0, 1) := by decide +kernel
theorem dX12_isPage_8 : decode cX12_isPage 8 = .ok (.iaload, 1) := by decide +kernel
theorem dX12_isPage_9 : decode cX12_isPage 9 = .ok (.iconst 1, 1) := by decide +kernel
theorem dX12_isPage_10 : decode cX12_isPage 10 = .ok (.isub, 1) := by decide +kernel
theorem dX12_isPage_11 : decode cX12_isPage 11 = .ok (.i2l, 1) := by decide +kernel
theorem dX12_isPage_12 : decode cX12_isPage 12 = .ok (.invokestatic 75, 3) := by decide +kernel
theorem dX12_isPage_15 : decode cX12_isPage 15 = .ok (.ireturn, 1) := by decide +kernel
theorem dX12_layThen_0 : decode cX12_layThen 0 = .ok (.iconst 0, 1) := by decide +kernel
theorem dX12_layThen_1 : decode cX12_layThen 1 = .ok (.istore_n 1, 1) := by decide +kernel
theorem dX12_layThen_2 : decode cX12_layThen 2 = .ok (.iload_n 1, 1) := by decide +kernel
theorem dX12_layThen_3 : decode cX12_layThen 3 = .ok (.bipush 43, 2) := by decide +kernel
theorem dX12_layThen_5 : decode cX12_layThen 5 = .ok (.if_icmp .ge 21, 3) := by decide +kernel
theorem dX12_layThen_8 : decode cX12_layThen 8 = .ok (.aload_n 0, 1) := by decide +kernel
theorem dX12_layThen_9 : decode cX12_layThen 9 = .ok (.getfield 25, 3) := by decide +kernel
theorem dX12_layThen_12 : decode cX12_layThen 12 = .ok (.iload_n 1, 1) := by decide +kernel
theorem dX12_layThen_13 : decode cX12_layThen 13 = .ok (.aload_n 0, 1) := by decide +kernel
theorem dX12_layThen_14 : decode cX12_layThen 14 = .ok (.getfield 19, 3) := by decide +kernel
theorem dX12_layThen_17 : decode cX12_layThen 17 = .ok (.iload_n 1, 1) := by decide +kernel
theorem dX12_layThen_18 : decode cX12_layThen 18 = .ok (.iaload, 1) := by decide +kernel
theorem dX12_layThen_19 : decode cX12_layThen 19 = .ok (.iastore, 1) := by decide +kernel
theorem dX12_layThen_20 : decode cX12_layThen 20 = .ok (.iinc 1 1, 3) := by decide +kernel
theorem dX12_layThen_23 : decode cX12_layThen 23 = .ok (.goto (-21), 3) := by decide +kernel
theorem dX12_layThen_26 : decode cX12_layThen 26 = .ok (.return_, 1) := by decide +kernel
theorem dX12_allOf_0 : decode cX12_allOf 0 = .ok (.iconst 1, 1) := by decide +kernel
theorem dX12_allOf_1 : decode cX12_allOf 1 = .ok (.aload_n 0, 1) := by decide +kernel
theorem dX12_allOf_2 : decode cX12_allOf 2 = .ok (.iconst 0, 1) := by decide +kernel
theorem dX12_allOf_3 : decode cX12_allOf 3 = .ok (.iaload, 1) := by decide +kernel
theorem dX12_allOf_4 : decode cX12_allOf 4 = .ok (.ishl, 1) := by decide +kernel
theorem dX12_allOf_5 : decode cX12_allOf 5 = .ok (.iconst 1, 1) := by decide +kernel
theorem dX12_allOf_6 : decode cX12_allOf 6 = .ok (.isub, 1) := by decide +kernel
theorem dX12_allOf_7 : decode cX12_allOf 7 = .ok (.ireturn, 1) := by decide +kernel
theorem dX12_has_0 : decode cX12_has 0 = .ok (.iload_n 0, 1) := by decide +kernel
theorem dX12_has_1 : decode cX12_has 1 = .ok (.iload_n 1, 1) := by decide +kernel
theorem dX12_has_2 : decode cX12_has 2 = .ok (.ishr, 1) := by decide +kernel
theorem dX12_has_3 : decode cX12_has 3 = .ok (.iconst 1, 1) := by decide +kernel
theorem dX12_has_4 : decode cX12_has 4 = .ok (.iand, 1) := by decide +kernel
theorem dX12_has_5 : decode cX12_has 5 = .ok (.iconst 1, 1) := by decide +kernel
theorem dX12_has_6 : decode cX12_has 6 = .ok (.if_icmp .ne 7, 3) := by decide +kernel
theorem dX12_has_9 : decode cX12_has 9 = .ok (.iconst 1, 1) := by decide +kernel
theorem dX12_has_10 : decode cX12_has 10 = .ok (.goto 4, 3) := by decide +kernel
theorem dX12_has_13 : decode cX12_has 13 = .ok (.iconst 0, 1) := by decide +kernel
theorem dX12_has_14 : decode cX12_has 14 = .ok (.ireturn, 1) := by decide +kernel
theorem dX12_sizeOf_0 : decode cX12_sizeOf 0 = .ok (.iconst 0, 1) := by decide +kernel
theorem dX12_sizeOf_1 : decode cX12_sizeOf 1 = .ok (.istore_n 1, 1) := by decide +kernel
theorem dX12_sizeOf_2 : decode cX12_sizeOf 2 = .ok (.iconst 0, 1) := by decide +kernel
theorem dX12_sizeOf_3 : decode cX12_sizeOf 3 = .ok (.istore_n 2, 1) := by decide +kernel
theorem dX12_sizeOf_4 : decode cX12_sizeOf 4 = .ok (.iload_n 2, 1) := by decide +kernel
theorem dX12_sizeOf_5 : decode cX12_sizeOf 5 = .ok (.bipush 10, 2) := by decide +kernel
theorem dX12_sizeOf_7 : decode cX12_sizeOf 7 = .ok (.if_icmp .ge 25, 3) := by decide +kernel
theorem dX12_sizeOf_10 : decode cX12_sizeOf 10 = .ok (.iload_n 1, 1) := by decide +kernel
theorem dX12_sizeOf_11 : decode cX12_sizeOf 11 = .ok (.iload_n 0, 1) := by decide +kernel
theorem dX12_sizeOf_12 : decode cX12_sizeOf 12 = .ok (.iload_n 2, 1) := by decide +kernel
theorem dX12_sizeOf_13 : decode cX12_sizeOf 13 = .ok (.invokestatic 90, 3) := by decide +kernel
theorem dX12_sizeOf_16 : decode cX12_sizeOf 16 = .ok (.ifCond .eq 7, 3) := by decide +kernel
theorem dX12_sizeOf_19 : decode cX12_sizeOf 19 = .ok (.iconst 1, 1) := by decide +kernel
theorem dX12_sizeOf_20 : decode cX12_sizeOf 20 = .ok (.goto 4, 3) := by decide +kernel
theorem dX12_sizeOf_23 : decode cX12_sizeOf 23 = .ok (.iconst 0, 1) := by decide +kernel
theorem dX12_sizeOf_24 : decode cX12_sizeOf 24 = .ok (.iadd, 1) := by decide +kernel
theorem dX12_sizeOf_25 : decode cX12_sizeOf 25 = .ok (.istore_n 1, 1) := by decide +kernel
theorem dX12_sizeOf_26 : decode cX12_sizeOf 26 = .ok (.iinc 2 1, 3) := by decide +kernel
theorem dX12_sizeOf_29 : decode cX12_sizeOf 29 = .ok (.goto (-25), 3) := by decide +kernel
theorem dX12_sizeOf_32 : decode cX12_sizeOf 32 = .ok (.iload_n 1, 1) := by decide +kernel
theorem dX12_sizeOf_33 : decode cX12_sizeOf 33 = .ok (.ireturn, 1) := by decide +kernel
theorem dX12_firstOf_0 : decode cX12_firstOf 0 = .ok (.iconst 0, 1) := by decide +kernel
theorem dX12_firstOf_1 : decode cX12_firstOf 1 = .ok (.istore_n 1, 1) := by decide +kernel
theorem dX12_firstOf_2 : decode cX12_firstOf 2 = .ok (.iload_n 1, 1) := by decide +kernel
theorem dX12_firstOf_3 : decode cX12_firstOf 3 = .ok (.bipush 10, 2) := by decide +kernel
theorem dX12_firstOf_5 : decode cX12_firstOf 5 = .ok (.if_icmp .ge 17, 3) := by decide +kernel
theorem dX12_firstOf_8 : decode cX12_firstOf 8 = .ok (.iload_n 0, 1) := by decide +kernel
theorem dX12_firstOf_9 : decode cX12_firstOf 9 = .ok (.iload_n 1, 1) := by decide +kernel
theorem dX12_firstOf_10 : decode cX12_firstOf 10 = .ok (.invokestatic 90, 3) := by decide +kernel
theorem dX12_firstOf_13 : decode cX12_firstOf 13 = .ok (.ifCond .ne 9, 3) := by decide +kernel
theorem dX12_firstOf_16 : decode cX12_firstOf 16 = .ok (.iinc 1 1, 3) := by decide +kernel
theorem dX12_firstOf_19 : decode cX12_firstOf 19 = .ok (.goto (-17), 3) := by decide +kernel
theorem dX12_firstOf_22 : decode cX12_firstOf 22 = .ok (.iload_n 1, 1) := by decide +kernel
theorem dX12_firstOf_23 : decode cX12_firstOf 23 = .ok (.ireturn, 1) := by decide +kernel
theorem dX12_feed_0 : decode cX12_feed 0 = .ok (.iload_n 1, 1) := by decide +kernel
theorem dX12_feed_1 : decode cX12_feed 1 = .ok (.i2l, 1) := by decide +kernel
theorem dX12_feed_2 : decode cX12_feed 2 = .ok (.lconst 0, 1) := by decide +kernel
theorem dX12_feed_3 : decode cX12_feed 3 = .ok (.ldc2_w 94, 3) := by decide +kernel
theorem dX12_feed_6 : decode cX12_feed 6 = .ok (.invokestatic 75, 3) := by decide +kernel
theorem dX12_feed_9 : decode cX12_feed 9 = .ok (.ifCond .ne 6, 3) := by decide +kernel
theorem dX12_feed_12 : decode cX12_feed 12 = .ok (.ldc 85, 2) := by decide +kernel
theorem dX12_feed_14 : decode cX12_feed 14 = .ok (.ireturn, 1) := by decide +kernel
theorem dX12_feed_15 : decode cX12_feed 15 = .ok (.aload_n 0, 1) := by decide +kernel
theorem dX12_feed_16 : decode cX12_feed 16 = .ok (.getfield 96, 3) := by decide +kernel
theorem dX12_feed_19 : decode cX12_feed 19 = .ok (.sipush 130, 3) := by decide +kernel
theorem dX12_feed_22 : decode cX12_feed 22 = .ok (.if_icmp .ne 6, 3) := by decide +kernel
theorem dX12_feed_25 : decode cX12_feed 25 = .ok (.ldc 99, 2) := by decide +kernel
theorem dX12_feed_27 : decode cX12_feed 27 = .ok (.ireturn, 1) := by decide +kernel
theorem dX12_feed_28 : decode cX12_feed 28 = .ok (.aload_n 0, 1) := by decide +kernel
theorem dX12_feed_29 : decode cX12_feed 29 = .ok (.getfield 31, 3) := by decide +kernel
theorem dX12_feed_32 : decode cX12_feed 32 = .ok (.aload_n 0, 1) := by decide +kernel
theorem dX12_feed_33 : decode cX12_feed 33 = .ok (.getfield 96, 3) := by decide +kernel
theorem dX12_feed_36 : decode cX12_feed 36 = .ok (.iload_n 1, 1) := by decide +kernel
theorem dX12_feed_37 : decode cX12_feed 37 = .ok (.iastore, 1) := by decide +kernel
theorem dX12_feed_38 : decode cX12_feed 38 = .ok (.aload_n 0, 1) := by decide +kernel
theorem dX12_feed_39 : decode cX12_feed 39 = .ok (.dup, 1) := by decide +kernel
theorem dX12_feed_40 : decode cX12_feed 40 = .ok (.getfield 96, 3) := by decide +kernel
theorem dX12_feed_43 : decode cX12_feed 43 = .ok (.iconst 1, 1) := by decide +kernel
theorem dX12_feed_44 : decode cX12_feed 44 = .ok (.iadd, 1) := by decide +kernel
theorem dX12_feed_45 : decode cX12_feed 45 = .ok (.putfield 96, 3) := by decide +kernel
theorem dX12_feed_48 : decode cX12_feed 48 = .ok (.aload_n 0, 1) := by decide +kernel
theorem dX12_feed_49 : decode cX12_feed 49 = .ok (.getfield 96, 3) := by decide +kernel
theorem dX12_feed_52 : decode cX12_feed 52 = .ok (.ireturn, 1) := by decide +kernel
theorem dX12_bad_0 : decode cX12_bad 0 = .ok (.aload_n 0, 1) := by decide +kernel
theorem dX12_bad_1 : decode cX12_bad 1 = .ok (.getfield 100, 3) := by decide +kernel
theorem dX12_bad_4 : decode cX12_bad 4 = .ok (.ifCond .ne 16, 3) := by decide +kernel
theorem dX12_bad_7 : decode cX12_bad 7 = .ok (.aload_n 0, 1) := by decide +kernel
theorem dX12_bad_8 : decode cX12_bad 8 = .ok (.iload_n 1, 1) := by decide +kernel
theorem dX12_bad_9 : decode cX12_bad 9 = .ok (.putfield 100, 3) := by decide +kernel
theorem dX12_bad_12 : decode cX12_bad 12 = .ok (.aload_n 0, 1) := by decide +kernel
theorem dX12_bad_13 : decode cX12_bad 13 = .ok (.aload_n 0, 1) := by decide +kernel
theorem dX12_bad_14 : decode cX12_bad 14 = .ok (.getfield 103, 3) := by decide +kernel
theorem dX12_bad_17 : decode cX12_bad 17 = .ok (.putfield 106, 3) := by decide +kernel
theorem dX12_bad_20 : decode cX12_bad 20 = .ok (.return_, 1) := by decide +kernel
theorem dX12_nextToken_0 : decode cX12_nextToken 0 = .ok (.aload_n 0, 1) := by decide +kernel
theorem dX12_nextToken_1 : decode cX12_nextToken 1 = .ok (.aload_n 0, 1) := by decide +kernel
theorem dX12_nextToken_2 : decode cX12_nextToken 2 = .ok (.getfield 109, 3) := by decide +kernel
theorem dX12_nextToken_5 : decode cX12_nextToken 5 = .ok (.putfield 103, 3) := by decide +kernel
theorem dX12_nextToken_8 : decode cX12_nextToken 8 = .ok (.aload_n 0, 1) := by decide +kernel
theorem dX12_nextToken_9 : decode cX12_nextToken 9 = .ok (.aload_n 0, 1) := by decide +kernel
theorem dX12_nextToken_10 : decode cX12_nextToken 10 = .ok (.getfield 109, 3) := by decide +kernel
theorem dX12_nextToken_13 : decode cX12_nextToken 13 = .ok (.aload_n 0, 1) := by decide +kernel
theorem dX12_nextToken_14 : decode cX12_nextToken 14 = .ok (.getfield 96, 3) := by decide +kernel
theorem dX12_nextToken_17 : decode cX12_nextToken 17 = .ok (.if_icmp .ge 15, 3) := by decide +kernel
theorem dX12_nextToken_20 : decode cX12_nextToken 20 = .ok (.aload_n 0, 1) := by decide +kernel
theorem dX12_nextToken_21 : decode cX12_nextToken 21 = .ok (.getfield 31, 3) := by decide +kernel
theorem dX12_nextToken_24 : decode cX12_nextToken 24 = .ok (.aload_n 0, 1) := by decide +kernel
theorem dX12_nextToken_25 : decode cX12_nextToken 25 = .ok (.getfield 109, 3) := by decide +kernel
theorem dX12_nextToken_28 : decode cX12_nextToken 28 = .ok (.iaload, 1) := by decide +kernel
theorem dX12_nextToken_29 : decode cX12_nextToken 29 = .ok (.goto 5, 3) := by decide +kernel
theorem dX12_nextToken_32 : decode cX12_nextToken 32 = .ok (.ldc 112, 2) := by decide +kernel
theorem dX12_nextToken_34 : decode cX12_nextToken 34 = .ok (.putfield 113, 3) := by decide +kernel
theorem dX12_nextToken_37 : decode cX12_nextToken 37 = .ok (.aload_n 0, 1) := by decide +kernel
theorem dX12_nextToken_38 : decode cX12_nextToken 38 = .ok (.aload_n 0, 1) := by decide +kernel
theorem dX12_nextToken_39 : decode cX12_nextToken 39 = .ok (.getfield 109, 3) := by decide +kernel
theorem dX12_nextToken_42 : decode cX12_nextToken 42 = .ok (.aload_n 0, 1) := by decide +kernel
theorem dX12_nextToken_43 : decode cX12_nextToken 43 = .ok (.getfield 96, 3) := by decide +kernel
theorem dX12_nextToken_46 : decode cX12_nextToken 46 = .ok (.if_icmp .ne 7, 3) := by decide +kernel
theorem dX12_nextToken_49 : decode cX12_nextToken 49 = .ok (.iconst 1, 1) := by decide +kernel
theorem dX12_nextToken_50 : decode cX12_nextToken 50 = .ok (.goto 68, 3) := by decide +kernel
theorem dX12_nextToken_53 : decode cX12_nextToken 53 = .ok (.aload_n 0, 1) := by decide +kernel
theorem dX12_nextToken_54 : decode cX12_nextToken 54 = .ok (.getfield 113, 3) := by decide +kernel
theorem dX12_nextToken_57 : decode cX12_nextToken 57 = .ok (.i2l, 1) := by decide +kernel
theorem dX12_nextToken_58 : decode cX12_nextToken 58 = .ok (.ldc2_w 116, 3) := by decide +kernel
theorem dX12_nextToken_61 : decode cX12_nextToken 61 = .ok (.ldc2_w 118, 3) := by decide +kernel
theorem dX12_nextToken_64 : decode cX12_nextToken 64 = .ok (.invokestatic 75, 3) := by decide +kernel
theorem dX12_nextToken_67 : decode cX12_nextToken 67 = .ok (.ifCond .eq 7, 3) := by decide +kernel
theorem dX12_nextToken_70 : decode cX12_nextToken 70 = .ok (.iconst 2, 1) := by decide +kernel
theorem dX12_nextToken_71 : decode cX12_nextToken 71 = .ok (.goto 47, 3) := by decide +kernel
theorem dX12_nextToken_74 : decode cX12_nextToken 74 = .ok (.aload_n 0, 1) := by decide +kernel
theorem dX12_nextToken_75 : decode cX12_nextToken 75 = .ok (.getfield 113, 3) := by decide +kernel
theorem dX12_nextToken_78 : decode cX12_nextToken 78 = .ok (.i2l, 1) := by decide +kernel
theorem dX12_nextToken_79 : decode cX12_nextToken 79 = .ok (.ldc2_w 120, 3) := by decide +kernel
theorem dX12_nextToken_82 : decode cX12_nextToken 82 = .ok (.ldc2_w 122, 3) := by decide +kernel
theorem dX12_nextToken_85 : decode cX12_nextToken 85 = .ok (.invokestatic 75, 3) := by decide +kernel
theorem dX12_nextToken_88 : decode cX12_nextToken 88 = .ok (.ifCond .eq 7, 3) := by decide +kernel
theorem dX12_nextToken_91 : decode cX12_nextToken 91 = .ok (.iconst 3, 1) := by decide +kernel
theorem dX12_nextToken_92 : decode cX12_nextToken 92 = .ok (.goto 26, 3) := by decide +kernel
theorem dX12_nextToken_95 : decode cX12_nextToken 95 = .ok (.aload_n 0, 1) := by decide +kernel
theorem dX12_nextToken_96 : decode cX12_nextToken 96 = .ok (.getfield 113, 3) := by decide +kernel
theorem dX12_nextToken_99 : decode cX12_nextToken 99 = .ok (.bipush 44, 2) := by decide +kernel
theorem dX12_nextToken_101 : decode cX12_nextToken 101 = .ok (.if_icmp .eq 12, 3) := by decide +kernel
theorem dX12_nextToken_104 : decode cX12_nextToken 104 = .ok (.aload_n 0, 1) := by decide +kernel
theorem dX12_nextToken_105 : decode cX12_nextToken 105 = .ok (.getfield 113, 3) := by decide +kernel
theorem dX12_nextToken_108 : decode cX12_nextToken 108 = .ok (.bipush 59, 2) := by decide +kernel
theorem dX12_nextToken_110 : decode cX12_nextToken 110 = .ok (.if_icmp .ne 7, 3) := by decide +kernel
theorem dX12_nextToken_113 : decode cX12_nextToken 113 = .ok (.iconst 4, 1) := by decide +kernel
theorem dX12_nextToken_114 : decode cX12_nextToken 114 = .ok (.goto 4, 3) := by decide +kernel
theorem dX12_nextToken_117 : decode cX12_nextToken 117 = .ok (.iconst 0, 1) := by decide +kernel
theorem dX12_nextToken_118 : decode cX12_nextToken 118 = .ok (.putfield 124, 3) := by decide +kernel
theorem dX12_nextToken_121 : decode cX12_nextToken 121 = .ok (.aload_n 0, 1) := by decide +kernel
theorem dX12_nextToken_122 : decode cX12_nextToken 122 = .ok (.dup, 1) := by decide +kernel
theorem dX12_nextToken_123 : decode cX12_nextToken 123 = .ok (.getfield 109, 3) := by decide +kernel
theorem dX12_nextToken_126 : decode cX12_nextToken 126 = .ok (.aload_n 0, 1) := by decide +kernel
theorem dX12_nextToken_127 : decode cX12_nextToken 127 = .ok (.getfield 109, 3) := by decide +kernel
theorem dX12_nextToken_130 : decode cX12_nextToken 130 = .ok (.aload_n 0, 1) := by decide +kernel
theorem dX12_nextToken_131 : decode cX12_nextToken 131 = .ok (.getfield 96, 3) := by decide +kernel
theorem dX12_nextToken_134 : decode cX12_nextToken 134 = .ok (.if_icmp .ge 7, 3) := by decide +kernel
theorem dX12_nextToken_137 : decode cX12_nextToken 137 = .ok (.iconst 1, 1) := by decide +kernel
theorem dX12_nextToken_138 : decode cX12_nextToken 138 = .ok (.goto 4, 3) := by decide +kernel
theorem dX12_nextToken_141 : decode cX12_nextToken 141 = .ok (.iconst 0, 1) := by decide +kernel
theorem dX12_nextToken_142 : decode cX12_nextToken 142 = .ok (.iadd, 1) := by decide +kernel
theorem dX12_nextToken_143 : decode cX12_nextToken 143 = .ok (.putfield 109, 3) := by decide +kernel
theorem dX12_nextToken_146 : decode cX12_nextToken 146 = .ok (.aload_n 0, 1) := by decide +kernel
theorem dX12_nextToken_147 : decode cX12_nextToken 147 = .ok (.getfield 124, 3) := by decide +kernel
theorem dX12_nextToken_150 : decode cX12_nextToken 150 = .ok (.iconst 3, 1) := by decide +kernel
theorem dX12_nextToken_151 : decode cX12_nextToken 151 = .ok (.if_icmp .ne 126, 3) := by decide +kernel
theorem dX12_nextToken_154 : decode cX12_nextToken 154 = .ok (.aload_n 0, 1) := by decide +kernel
theorem dX12_nextToken_155 : decode cX12_nextToken 155 = .ok (.dup, 1) := by decide +kernel
theorem dX12_nextToken_156 : decode cX12_nextToken 156 = .ok (.getfield 113, 3) := by decide +kernel
theorem dX12_nextToken_159 : decode cX12_nextToken 159 = .ok (.bipush 48, 2) := by decide +kernel
theorem dX12_nextToken_161 : decode cX12_nextToken 161 = .ok (.isub, 1) := by decide +kernel
theorem dX12_nextToken_162 : decode cX12_nextToken 162 = .ok (.putfield 113, 3) := by decide +kernel
theorem dX12_nextToken_165 : decode cX12_nextToken 165 = .ok (.aload_n 0, 1) := by decide +kernel
theorem dX12_nextToken_166 : decode cX12_nextToken 166 = .ok (.getfield 109, 3) := by decide +kernel
theorem dX12_nextToken_169 : decode cX12_nextToken 169 = .ok (.aload_n 0, 1) := by decide +kernel
theorem dX12_nextToken_170 : decode cX12_nextToken 170 = .ok (.getfield 96, 3) := by decide +kernel
theorem dX12_nextToken_173 : decode cX12_nextToken 173 = .ok (.if_icmp .ge 82, 3) := by decide +kernel
theorem dX12_nextToken_176 : decode cX12_nextToken 176 = .ok (.aload_n 0, 1) := by decide +kernel
theorem dX12_nextToken_177 : decode cX12_nextToken 177 = .ok (.getfield 31, 3) := by decide +kernel
theorem dX12_nextToken_180 : decode cX12_nextToken 180 = .ok (.aload_n 0, 1) := by decide +kernel
theorem dX12_nextToken_181 : decode cX12_nextToken 181 = .ok (.getfield 109, 3) := by decide +kernel
theorem dX12_nextToken_184 : decode cX12_nextToken 184 = .ok (.iaload, 1) := by decide +kernel
theorem dX12_nextToken_185 : decode cX12_nextToken 185 = .ok (.i2l, 1) := by decide +kernel
theorem dX12_nextToken_186 : decode cX12_nextToken 186 = .ok (.ldc2_w 120, 3) := by decide +kernel
theorem dX12_nextToken_189 : decode cX12_nextToken 189 = .ok (.ldc2_w 122, 3) := by decide +kernel
theorem dX12_nextToken_192 : decode cX12_nextToken 192 = .ok (.invokestatic 75, 3) := by decide +kernel
theorem dX12_nextToken_195 : decode cX12_nextToken 195 = .ok (.ifCond .eq 60, 3) := by decide +kernel
theorem dX12_nextToken_198 : decode cX12_nextToken 198 = .ok (.aload_n 0, 1) := by decide +kernel
theorem dX12_nextToken_199 : decode cX12_nextToken 199 = .ok (.aload_n 0, 1) := by decide +kernel
theorem dX12_nextToken_200 : decode cX12_nextToken 200 = .ok (.getfield 109, 3) := by decide +kernel
theorem dX12_nextToken_203 : decode cX12_nextToken 203 = .ok (.aload_n 0, 1) := by decide +kernel
theorem dX12_nextToken_204 : decode cX12_nextToken 204 = .ok (.getfield 103, 3) := by decide +kernel
theorem dX12_nextToken_207 : decode cX12_nextToken 207 = .ok (.isub, 1) := by decide +kernel
theorem dX12_nextToken_208 : decode cX12_nextToken 208 = .ok (.iconst 2, 1) := by decide +kernel
theorem dX12_nextToken_209 : decode cX12_nextToken 209 = .ok (.if_icmp .ge 26, 3) := by decide +kernel
theorem dX12_nextToken_212 : decode cX12_nextToken 212 = .ok (.bipush 10, 2) := by decide +kernel
theorem dX12_nextToken_214 : decode cX12_nextToken 214 = .ok (.aload_n 0, 1) := by decide +kernel
theorem dX12_nextToken_215 : decode cX12_nextToken 215 = .ok (.getfield 113, 3) := by decide +kernel
theorem dX12_nextToken_218 : decode cX12_nextToken 218 = .ok (.imul, 1) := by decide +kernel
theorem dX12_nextToken_219 : decode cX12_nextToken 219 = .ok (.aload_n 0, 1) := by decide +kernel
theorem dX12_nextToken_220 : decode cX12_nextToken 220 = .ok (.getfield 31, 3) := by decide +kernel
theorem dX12_nextToken_223 : decode cX12_nextToken 223 = .ok (.aload_n 0, 1) := by decide +kernel
theorem dX12_nextToken_224 : decode cX12_nextToken 224 = .ok (.getfield 109, 3) := by decide +kernel
theorem dX12_nextToken_227 : decode cX12_nextToken 227 = .ok (.iaload, 1) := by decide +kernel
theorem dX12_nextToken_228 : decode cX12_nextToken 228 = .ok (.iadd, 1) := by decide +kernel
theorem dX12_nextToken_229 : decode cX12_nextToken 229 = .ok (.bipush 48, 2) := by decide +kernel
theorem dX12_nextToken_231 : decode cX12_nextToken 231 = .ok (.isub, 1) := by decide +kernel
theorem dX12_nextToken_232 : decode cX12_nextToken 232 = .ok (.goto 7, 3) := by decide +kernel
theorem dX12_nextToken_235 : decode cX12_nextToken 235 = .ok (.aload_n 0, 1) := by decide +kernel
theorem dX12_nextToken_236 : decode cX12_nextToken 236 = .ok (.getfield 113, 3) := by decide +kernel
theorem dX12_nextToken_239 : decode cX12_nextToken 239 = .ok (.putfield 113, 3) := by decide +kernel
theorem dX12_nextToken_242 : decode cX12_nextToken 242 = .ok (.aload_n 0, 1) := by decide +kernel
theorem dX12_nextToken_243 : decode cX12_nextToken 243 = .ok (.dup, 1) := by decide +kernel
theorem dX12_nextToken_244 : decode cX12_nextToken 244 = .ok (.getfield 109, 3) := by decide +kernel
theorem dX12_nextToken_247 : decode cX12_nextToken 247 = .ok (.iconst 1, 1) := by decide +kernel
theorem dX12_nextToken_248 : decode cX12_nextToken 248 = .ok (.iadd, 1) := by decide +kernel
theorem dX12_nextToken_249 : decode cX12_nextToken 249 = .ok (.putfield 109, 3) := by decide +kernel
theorem dX12_nextToken_252 : decode cX12_nextToken 252 = .ok (.goto (-87), 3) := by decide +kernel
theorem dX12_nextToken_255 : decode cX12_nextToken 255 = .ok (.aload_n 0, 1) := by decide +kernel
theorem dX12_nextToken_256 : decode cX12_nextToken 256 = .ok (.aload_n 0, 1) := by decide +kernel
theorem dX12_nextToken_257 : decode cX12_nextToken 257 = .ok (.getfield 109, 3) := by decide +kernel
theorem dX12_nextToken_260 : decode cX12_nextToken 260 = .ok (.aload_n 0, 1) := by decide +kernel
theorem dX12_nextToken_261 : decode cX12_nextToken 261 = .ok (.getfield 103, 3) := by decide +kernel
theorem dX12_nextToken_264 : decode cX12_nextToken 264 = .ok (.isub, 1) := by decide +kernel
theorem dX12_nextToken_265 : decode cX12_nextToken 265 = .ok (.iconst 2, 1) := by decide +kernel
theorem dX12_nextToken_266 : decode cX12_nextToken 266 = .ok (.if_icmp .le 7, 3) := by decide +kernel
theorem dX12_nextToken_269 : decode cX12_nextToken 269 = .ok (.iconst 0, 1) := by decide +kernel
theorem dX12_nextToken_270 : decode cX12_nextToken 270 = .ok (.goto 4, 3) := by decide +kernel
theorem dX12_nextToken_273 : decode cX12_nextToken 273 = .ok (.iconst 3, 1) := by decide +kernel
theorem dX12_nextToken_274 : decode cX12_nextToken 274 = .ok (.putfield 124, 3) := by decide +kernel
theorem dX12_nextToken_277 : decode cX12_nextToken 277 = .ok (.return_, 1) := by decide +kernel
theorem dX12_must_0 : decode cX12_must 0 = .ok (.iload_n 1, 1) := by decide +kernel
theorem dX12_must_1 : decode cX12_must 1 = .ok (.ifCond .ne 8, 3) := by decide +kernel
theorem dX12_must_4 : decode cX12_must 4 = .ok (.aload_n 0, 1) := by decide +kernel
theorem dX12_must_5 : decode cX12_must 5 = .ok (.iconst 1, 1) := by decide +kernel
theorem dX12_must_6 : decode cX12_must 6 = .ok (.invokevirtual 127, 3) := by decide +kernel
theorem dX12_must_9 : decode cX12_must 9 = .ok (.aload_n 0, 1) := by decide +kernel
theorem dX12_must_10 : decode cX12_must 10 = .ok (.getfield 100, 3) := by decide +kernel
theorem dX12_must_13 : decode cX12_must 13 = .ok (.ifCond .ne 7, 3) := by decide +kernel
theorem dX12_must_16 : decode cX12_must 16 = .ok (.aload_n 0, 1) := by decide +kernel
theorem dX12_must_17 : decode cX12_must 17 = .ok (.invokevirtual 131, 3) := by decide +kernel
theorem dX12_must_20 : decode cX12_must 20 = .ok (.return_, 1) := by decide +kernel
theorem dX12_number_0 : decode cX12_number 0 = .ok (.aload_n 0, 1) := by decide +kernel
theorem dX12_number_1 : decode cX12_number 1 = .ok (.getfield 100, 3) := by decide +kernel
theorem dX12_number_4 : decode cX12_number 4 = .ok (.ifCond .ne 16, 3) := by decide +kernel
theorem dX12_number_7 : decode cX12_number 7 = .ok (.aload_n 0, 1) := by decide +kernel
theorem dX12_number_8 : decode cX12_number 8 = .ok (.getfield 124, 3) := by decide +kernel
theorem dX12_number_11 : decode cX12_number 11 = .ok (.iconst 3, 1) := by decide +kernel
theorem dX12_number_12 : decode cX12_number 12 = .ok (.if_icmp .eq 8, 3) := by decide +kernel
theorem dX12_number_15 : decode cX12_number 15 = .ok (.aload_n 0, 1) := by decide +kernel
theorem dX12_number_16 : decode cX12_number 16 = .ok (.iconst 1, 1) := by decide +kernel
theorem dX12_number_17 : decode cX12_number 17 = .ok (.invokevirtual 127, 3) := by decide +kernel
theorem dX12_number_20 : decode cX12_number 20 = .ok (.aload_n 0, 1) := by decide +kernel
theorem dX12_number_21 : decode cX12_number 21 = .ok (.getfield 100, 3) := by decide +kernel
theorem dX12_number_24 : decode cX12_number 24 = .ok (.ifCond .ne 23, 3) := by decide +kernel
theorem dX12_number_27 : decode cX12_number 27 = .ok (.aload_n 0, 1) := by decide +kernel
theorem dX12_number_28 : decode cX12_number 28 = .ok (.getfield 113, 3) := by decide +kernel
theorem dX12_number_31 : decode cX12_number 31 = .ok (.i2l, 1) := by decide +kernel
theorem dX12_number_32 : decode cX12_number 32 = .ok (.iload_n 1, 1) := by decide +kernel
theorem dX12_number_33 : decode cX12_number 33 = .ok (.i2l, 1) := by decide +kernel
theorem dX12_number_34 : decode cX12_number 34 = .ok (.iload_n 2, 1) := by decide +kernel
theorem dX12_number_35 : decode cX12_number 35 = .ok (.i2l, 1) := by decide +kernel
theorem dX12_number_36 : decode cX12_number 36 = .ok (.invokestatic 75, 3) := by decide +kernel
theorem dX12_number_39 : decode cX12_number 39 = .ok (.ifCond .ne 8, 3) := by decide +kernel
theorem dX12_number_42 : decode cX12_number 42 = .ok (.aload_n 0, 1) := by decide +kernel
theorem dX12_number_43 : decode cX12_number 43 = .ok (.iconst 2, 1) := by decide +kernel
theorem dX12_number_44 : decode cX12_number 44 = .ok (.invokevirtual 127, 3) := by decide +kernel
theorem dX12_number_47 : decode cX12_number 47 = .ok (.aload_n 0, 1) := by decide +kernel
theorem dX12_number_48 : decode cX12_number 48 = .ok (.getfield 100, 3) := by decide +kernel
theorem dX12_number_51 : decode cX12_number 51 = .ok (.ifCond .ne 10, 3) := by decide +kernel
theorem dX12_number_54 : decode cX12_number 54 = .ok (.aload_n 0, 1) := by decide +kernel
theorem dX12_number_55 : decode cX12_number 55 = .ok (.getfield 113, 3) := by decide +kernel
theorem dX12_number_58 : decode cX12_number 58 = .ok (.goto 4, 3) := by decide +kernel
theorem dX12_number_61 : decode cX12_number 61 = .ok (.iload_n 1, 1) := by decide +kernel
theorem dX12_number_62 : decode cX12_number 62 = .ok (.istore_n 3, 1) := by decide +kernel
theorem dX12_number_63 : decode cX12_number 63 = .ok (.aload_n 0, 1) := by decide +kernel
theorem dX12_number_64 : decode cX12_number 64 = .ok (.iconst 1, 1) := by decide +kernel
theorem dX12_number_65 : decode cX12_number 65 = .ok (.invokevirtual 134, 3) := by decide +kernel
theorem dX12_number_68 : decode cX12_number 68 = .ok (.iload_n 3, 1) := by decide +kernel
theorem dX12_number_69 : decode cX12_number 69 = .ok (.ireturn, 1) := by decide +kernel
theorem dX12_mustSign_0 : decode cX12_mustSign 0 = .ok (.aload_n 0, 1) := by decide +kernel
theorem dX12_mustSign_1 : decode cX12_mustSign 1 = .ok (.aload_n 0, 1) := by decide +kernel
theorem dX12_mustSign_2 : decode cX12_mustSign 2 = .ok (.getfield 124, 3) := by decide +kernel
theorem dX12_mustSign_5 : decode cX12_mustSign 5 = .ok (.iconst 4, 1) := by decide +kernel
theorem dX12_mustSign_6 : decode cX12_mustSign 6 = .ok (.if_icmp .ne 15, 3) := by decide +kernel
theorem dX12_mustSign_9 : decode cX12_mustSign 9 = .ok (.aload_n 0, 1) := by decide +kernel
theorem dX12_mustSign_10 : decode cX12_mustSign 10 = .ok (.getfield 113, 3) := by decide +kernel
theorem dX12_mustSign_13 : decode cX12_mustSign 13 = .ok (.iload_n 1, 1) := by decide +kernel
theorem dX12_mustSign_14 : decode cX12_mustSign 14 = .ok (.if_icmp .ne 7, 3) := by decide +kernel
theorem dX12_mustSign_17 : decode cX12_mustSign 17 = .ok (.iconst 1, 1) := by decide +kernel
theorem dX12_mustSign_18 : decode cX12_mustSign 18 = .ok (.goto 4, 3) := by decide +kernel
theorem dX12_mustSign_21 : decode cX12_mustSign 21 = .ok (.iconst 0, 1) := by decide +kernel
theorem dX12_mustSign_22 : decode cX12_mustSign 22 = .ok (.invokevirtual 134, 3) := by decide +kernel
theorem dX12_mustSign_25 : decode cX12_mustSign 25 = .ok (.return_, 1) := by decide +kernel
theorem dX12_sortOf_0 : decode cX12_sortOf 0 = .ok (.iload_n 0, 1) := by decide +kernel
theorem dX12_sortOf_1 : decode cX12_sortOf 1 = .ok (.bipush 112, 2) := by decide +kernel
theorem dX12_sortOf_3 : decode cX12_sortOf 3 = .ok (.if_icmp .ne 7, 3) := by decide +kernel
theorem dX12_sortOf_6 : decode cX12_sortOf 6 = .ok (.iconst 1, 1) := by decide +kernel
theorem dX12_sortOf_7 : decode cX12_sortOf 7 = .ok (.goto 44, 3) := by decide +kernel
theorem dX12_sortOf_10 : decode cX12_sortOf 10 = .ok (.iload_n 0, 1) := by decide +kernel
theorem dX12_sortOf_11 : decode cX12_sortOf 11 = .ok (.bipush 102, 2) := by decide +kernel
theorem dX12_sortOf_13 : decode cX12_sortOf 13 = .ok (.if_icmp .ne 7, 3) := by decide +kernel
theorem dX12_sortOf_16 : decode cX12_sortOf 16 = .ok (.iconst 2, 1) := by decide +kernel
theorem dX12_sortOf_17 : decode cX12_sortOf 17 = .ok (.goto 34, 3) := by decide +kernel
theorem dX12_sortOf_20 : decode cX12_sortOf 20 = .ok (.iload_n 0, 1) := by decide +kernel
theorem dX12_sortOf_21 : decode cX12_sortOf 21 = .ok (.bipush 114, 2) := by decide +kernel
theorem dX12_sortOf_23 : decode cX12_sortOf 23 = .ok (.if_icmp .ne 7, 3) := by decide +kernel
theorem dX12_sortOf_26 : decode cX12_sortOf 26 = .ok (.iconst 3, 1) := by decide +kernel
theorem dX12_sortOf_27 : decode cX12_sortOf 27 = .ok (.goto 24, 3) := by decide +kernel
theorem dX12_sortOf_30 : decode cX12_sortOf 30 = .ok (.iload_n 0, 1) := by decide +kernel
theorem dX12_sortOf_31 : decode cX12_sortOf 31 = .ok (.bipush 99, 2) := by decide +kernel
theorem dX12_sortOf_33 : decode cX12_sortOf 33 = .ok (.if_icmp .ne 7, 3) := by decide +kernel
theorem dX12_sortOf_36 : decode cX12_sortOf 36 = .ok (.iconst 4, 1) := by decide +kernel
theorem dX12_sortOf_37 : decode cX12_sortOf 37 = .ok (.goto 14, 3) := by decide +kernel
theorem dX12_sortOf_40 : decode cX12_sortOf 40 = .ok (.iload_n 0, 1) := by decide +kernel
theorem dX12_sortOf_41 : decode cX12_sortOf 41 = .ok (.bipush 103, 2) := by decide +kernel
theorem dX12_sortOf_43 : decode cX12_sortOf 43 = .ok (.if_icmp .ne 7, 3) := by decide +kernel
theorem dX12_sortOf_46 : decode cX12_sortOf 46 = .ok (.iconst 5, 1) := by decide +kernel
theorem dX12_sortOf_47 : decode cX12_sortOf 47 = .ok (.goto 4, 3) := by decide +kernel
theorem dX12_sortOf_50 : decode cX12_sortOf 50 = .ok (.iconst 0, 1) := by decide +kernel
theorem dX12_sortOf_51 : decode cX12_sortOf 51 = .ok (.ireturn, 1) := by decide +kernel
theorem dX12_readPage_0 : decode cX12_readPage 0 = .ok (.aload_n 0, 1) := by decide +kernel
theorem dX12_readPage_1 : decode cX12_readPage 1 = .ok (.getfield 124, 3) := by decide +kernel
theorem dX12_readPage_4 : decode cX12_readPage 4 = .ok (.iconst 2, 1) := by decide +kernel
theorem dX12_readPage_5 : decode cX12_readPage 5 = .ok (.if_icmp .ne 13, 3) := by decide +kernel
theorem dX12_readPage_8 : decode cX12_readPage 8 = .ok (.aload_n 0, 1) := by decide +kernel
theorem dX12_readPage_9 : decode cX12_readPage 9 = .ok (.getfield 113, 3) := by decide +kernel
theorem dX12_readPage_12 : decode cX12_readPage 12 = .ok (.invokestatic 138, 3) := by decide +kernel
theorem dX12_readPage_15 : decode cX12_readPage 15 = .ok (.goto 4, 3) := by decide +kernel
theorem dX12_readPage_18 : decode cX12_readPage 18 = .ok (.iconst 0, 1) := by decide +kernel
theorem dX12_readPage_19 : decode cX12_readPage 19 = .ok (.istore_n 1, 1) := by decide +kernel
theorem dX12_readPage_20 : decode cX12_readPage 20 = .ok (.iload_n 1, 1) := by decide +kernel
theorem dX12_readPage_21 : decode cX12_readPage 21 = .ok (.ifCond .ne 11, 3) := by decide +kernel
theorem dX12_readPage_24 : decode cX12_readPage 24 = .ok (.aload_n 0, 1) := by decide +kernel
theorem dX12_readPage_25 : decode cX12_readPage 25 = .ok (.iconst 1, 1) := by decide +kernel
theorem dX12_readPage_26 : decode cX12_readPage 26 = .ok (.invokevirtual 127, 3) := by decide +kernel
theorem dX12_readPage_29 : decode cX12_readPage 29 = .ok (.goto 19, 3) := by decide +kernel
theorem dX12_readPage_32 : decode cX12_readPage 32 = .ok (.aload_n 0, 1) := by decide +kernel
theorem dX12_readPage_33 : decode cX12_readPage 33 = .ok (.getfield 22, 3) := by decide +kernel
theorem dX12_readPage_36 : decode cX12_readPage 36 = .ok (.iconst 0, 1) := by decide +kernel
theorem dX12_readPage_37 : decode cX12_readPage 37 = .ok (.iaload, 1) := by decide +kernel
theorem dX12_readPage_38 : decode cX12_readPage 38 = .ok (.bipush 10, 2) := by decide +kernel
theorem dX12_readPage_40 : decode cX12_readPage 40 = .ok (.if_icmp .ne 8, 3) := by decide +kernel
theorem dX12_readPage_43 : decode cX12_readPage 43 = .ok (.aload_n 0, 1) := by decide +kernel
theorem dX12_readPage_44 : decode cX12_readPage 44 = .ok (.iconst 3, 1) := by decide +kernel
theorem dX12_readPage_45 : decode cX12_readPage 45 = .ok (.invokevirtual 127, 3) := by decide +kernel
theorem dX12_readPage_48 : decode cX12_readPage 48 = .ok (.aload_n 0, 1) := by decide +kernel
theorem dX12_readPage_49 : decode cX12_readPage 49 = .ok (.getfield 100, 3) := by decide +kernel
theorem dX12_readPage_52 : decode cX12_readPage 52 = .ok (.ifCond .le 4, 3) := by decide +kernel
theorem dX12_readPage_55 : decode cX12_readPage 55 = .ok (.return_, 1) := by decide +kernel
theorem dX12_readPage_56 : decode cX12_readPage 56 = .ok (.iconst 3, 1) := by decide +kernel
theorem dX12_readPage_57 : decode cX12_readPage 57 = .ok (.iconst 4, 1) := by decide +kernel
theorem dX12_readPage_58 : decode cX12_readPage 58 = .ok (.aload_n 0, 1) := by decide +kernel
theorem dX12_readPage_59 : decode cX12_readPage 59 = .ok (.getfield 22, 3) := by decide +kernel
theorem dX12_readPage_62 : decode cX12_readPage 62 = .ok (.iconst 0, 1) := by decide +kernel
theorem dX12_readPage_63 : decode cX12_readPage 63 = .ok (.iaload, 1) := by decide +kernel
theorem dX12_readPage_64 : decode cX12_readPage 64 = .ok (.imul, 1) := by decide +kernel
theorem dX12_readPage_65 : decode cX12_readPage 65 = .ok (.iadd, 1) := by decide +kernel
theorem dX12_readPage_66 : decode cX12_readPage 66 = .ok (.istore_n 2, 1) := by decide +kernel
theorem dX12_readPage_67 : decode cX12_readPage 67 = .ok (.aload_n 0, 1) := by decide +kernel
theorem dX12_readPage_68 : decode cX12_readPage 68 = .ok (.invokevirtual 131, 3) := by decide +kernel
theorem dX12_readPage_71 : decode cX12_readPage 71 = .ok (.aload_n 0, 1) := by decide +kernel
theorem dX12_readPage_72 : decode cX12_readPage 72 = .ok (.getfield 22, 3) := by decide +kernel
theorem dX12_readPage_75 : decode cX12_readPage 75 = .ok (.iload_n 2, 1) := by decide +kernel
theorem dX12_readPage_76 : decode cX12_readPage 76 = .ok (.iload_n 1, 1) := by decide +kernel
theorem dX12_readPage_77 : decode cX12_readPage 77 = .ok (.iastore, 1) := by decide +kernel
theorem dX12_readPage_78 : decode cX12_readPage 78 = .ok (.aload_n 0, 1) := by decide +kernel
theorem dX12_readPage_79 : decode cX12_readPage 79 = .ok (.getfield 22, 3) := by decide +kernel
theorem dX12_readPage_82 : decode cX12_readPage 82 = .ok (.iload_n 2, 1) := by decide +kernel
theorem dX12_readPage_83 : decode cX12_readPage 83 = .ok (.iconst 1, 1) := by decide +kernel
theorem dX12_readPage_84 : decode cX12_readPage 84 = .ok (.iadd, 1) := by decide +kernel
theorem dX12_readPage_85 : decode cX12_readPage 85 = .ok (.aload_n 0, 1) := by decide +kernel
theorem dX12_readPage_86 : decode cX12_readPage 86 = .ok (.iconst 0, 1) := by decide +kernel
theorem dX12_readPage_87 : decode cX12_readPage 87 = .ok (.bipush 30, 2) := by decide +kernel
theorem dX12_readPage_89 : decode cX12_readPage 89 = .ok (.invokevirtual 141, 3) := by decide +kernel
theorem dX12_readPage_92 : decode cX12_readPage 92 = .ok (.iastore, 1) := by decide +kernel
theorem dX12_readPage_93 : decode cX12_readPage 93 = .ok (.aload_n 0, 1) := by decide +kernel
theorem dX12_readPage_94 : decode cX12_readPage 94 = .ok (.bipush 44, 2) := by decide +kernel
theorem dX12_readPage_96 : decode cX12_readPage 96 = .ok (.invokevirtual 145, 3) := by decide +kernel
theorem dX12_readPage_99 : decode cX12_readPage 99 = .ok (.aload_n 0, 1) := by decide +kernel
theorem dX12_readPage_100 : decode cX12_readPage 100 = .ok (.getfield 22, 3) := by decide +kernel
theorem dX12_readPage_103 : decode cX12_readPage 103 = .ok (.iload_n 2, 1) := by decide +kernel
theorem dX12_readPage_104 : decode cX12_readPage 104 = .ok (.iconst 2, 1) := by decide +kernel
theorem dX12_readPage_105 : decode cX12_readPage 105 = .ok (.iadd, 1) := by decide +kernel
theorem dX12_readPage_106 : decode cX12_readPage 106 = .ok (.aload_n 0, 1) := by decide +kernel
theorem dX12_readPage_107 : decode cX12_readPage 107 = .ok (.iconst 0, 1) := by decide +kernel
theorem dX12_readPage_108 : decode cX12_readPage 108 = .ok (.bipush 30, 2) := by decide +kernel
theorem dX12_readPage_110 : decode cX12_readPage 110 = .ok (.invokevirtual 141, 3) := by decide +kernel
theorem dX12_readPage_113 : decode cX12_readPage 113 = .ok (.iastore, 1) := by decide +kernel
theorem dX12_readPage_114 : decode cX12_readPage 114 = .ok (.aload_n 0, 1) := by decide +kernel
theorem dX12_readPage_115 : decode cX12_readPage 115 = .ok (.bipush 44, 2) := by decide +kernel
theorem dX12_readPage_117 : decode cX12_readPage 117 = .ok (.invokevirtual 145, 3) := by decide +kernel
theorem dX12_readPage_120 : decode cX12_readPage 120 = .ok (.aload_n 0, 1) := by decide +kernel
theorem dX12_readPage_121 : decode cX12_readPage 121 = .ok (.getfield 22, 3) := by decide +kernel
theorem dX12_readPage_124 : decode cX12_readPage 124 = .ok (.iload_n 2, 1) := by decide +kernel
theorem dX12_readPage_125 : decode cX12_readPage 125 = .ok (.iconst 3, 1) := by decide +kernel
theorem dX12_readPage_126 : decode cX12_readPage 126 = .ok (.iadd, 1) := by decide +kernel
theorem dX12_readPage_127 : decode cX12_readPage 127 = .ok (.aload_n 0, 1) := by decide +kernel
theorem dX12_readPage_128 : decode cX12_readPage 128 = .ok (.iconst 0, 1) := by decide +kernel
theorem dX12_readPage_129 : decode cX12_readPage 129 = .ok (.bipush 30, 2) := by decide +kernel
theorem dX12_readPage_131 : decode cX12_readPage 131 = .ok (.invokevirtual 141, 3) := by decide +kernel
theorem dX12_readPage_134 : decode cX12_readPage 134 = .ok (.iastore, 1) := by decide +kernel
theorem dX12_readPage_135 : decode cX12_readPage 135 = .ok (.aload_n 0, 1) := by decide +kernel
theorem dX12_readPage_136 : decode cX12_readPage 136 = .ok (.bipush 59, 2) := by decide +kernel
theorem dX12_readPage_138 : decode cX12_readPage 138 = .ok (.invokevirtual 145, 3) := by decide +kernel
theorem dX12_readPage_141 : decode cX12_readPage 141 = .ok (.aload_n 0, 1) := by decide +kernel
theorem dX12_readPage_142 : decode cX12_readPage 142 = .ok (.getfield 22, 3) := by decide +kernel
theorem dX12_readPage_145 : decode cX12_readPage 145 = .ok (.iconst 0, 1) := by decide +kernel
theorem dX12_readPage_146 : decode cX12_readPage 146 = .ok (.dup2, 1) := by decide +kernel
theorem dX12_readPage_147 : decode cX12_readPage 147 = .ok (.iaload, 1) := by decide +kernel
theorem dX12_readPage_148 : decode cX12_readPage 148 = .ok (.iconst 1, 1) := by decide +kernel
theorem dX12_readPage_149 : decode cX12_readPage 149 = .ok (.iadd, 1) := by decide +kernel
theorem dX12_readPage_150 : decode cX12_readPage 150 = .ok (.iastore, 1) := by decide +kernel
theorem dX12_readPage_151 : decode cX12_readPage 151 = .ok (.return_, 1) := by decide +kernel
theorem dX12_book_0 : decode cX12_book 0 = .ok (.aload_n 0, 1) := by decide +kernel
theorem dX12_book_1 : decode cX12_book 1 = .ok (.iconst 0, 1) := by decide +kernel
theorem dX12_book_2 : decode cX12_book 2 = .ok (.putfield 109, 3) := by decide +kernel
theorem dX12_book_5 : decode cX12_book 5 = .ok (.aload_n 0, 1) := by decide +kernel
theorem dX12_book_6 : decode cX12_book 6 = .ok (.iconst 0, 1) := by decide +kernel
theorem dX12_book_7 : decode cX12_book 7 = .ok (.putfield 100, 3) := by decide +kernel
theorem dX12_book_10 : decode cX12_book 10 = .ok (.aload_n 0, 1) := by decide +kernel
theorem dX12_book_11 : decode cX12_book 11 = .ok (.invokevirtual 131, 3) := by decide +kernel
theorem dX12_book_14 : decode cX12_book 14 = .ok (.iconst 0, 1) := by decide +kernel
theorem dX12_book_15 : decode cX12_book 15 = .ok (.istore_n 1, 1) := by decide +kernel
theorem dX12_book_16 : decode cX12_book 16 = .ok (.iload_n 1, 1) := by decide +kernel
theorem dX12_book_17 : decode cX12_book 17 = .ok (.bipush 43, 2) := by decide +kernel
theorem dX12_book_19 : decode cX12_book 19 = .ok (.if_icmp .ge 16, 3) := by decide +kernel
theorem dX12_book_22 : decode cX12_book 22 = .ok (.aload_n 0, 1) := by decide +kernel
theorem dX12_book_23 : decode cX12_book 23 = .ok (.getfield 22, 3) := by decide +kernel
theorem dX12_book_26 : decode cX12_book 26 = .ok (.iload_n 1, 1) := by decide +kernel
theorem dX12_book_27 : decode cX12_book 27 = .ok (.iconst 0, 1) := by decide +kernel
theorem dX12_book_28 : decode cX12_book 28 = .ok (.iastore, 1) := by decide +kernel
theorem dX12_book_29 : decode cX12_book 29 = .ok (.iinc 1 1, 3) := by decide +kernel
theorem dX12_book_32 : decode cX12_book 32 = .ok (.goto (-16), 3) := by decide +kernel
theorem dX12_book_35 : decode cX12_book 35 = .ok (.aload_n 0, 1) := by decide +kernel
theorem dX12_book_36 : decode cX12_book 36 = .ok (.aload_n 0, 1) := by decide +kernel
theorem dX12_book_37 : decode cX12_book 37 = .ok (.getfield 124, 3) := by decide +kernel
theorem dX12_book_40 : decode cX12_book 40 = .ok (.iconst 2, 1) := by decide +kernel
theorem dX12_book_41 : decode cX12_book 41 = .ok (.if_icmp .ne 16, 3) := by decide +kernel
theorem dX12_book_44 : decode cX12_book 44 = .ok (.aload_n 0, 1) := by decide +kernel
theorem dX12_book_45 : decode cX12_book 45 = .ok (.getfield 113, 3) := by decide +kernel
theorem dX12_book_48 : decode cX12_book 48 = .ok (.bipush 104, 2) := by decide +kernel
theorem dX12_book_50 : decode cX12_book 50 = .ok (.if_icmp .ne 7, 3) := by decide +kernel
theorem dX12_book_53 : decode cX12_book 53 = .ok (.iconst 1, 1) := by decide +kernel
theorem dX12_book_54 : decode cX12_book 54 = .ok (.goto 4, 3) := by decide +kernel
theorem dX12_book_57 : decode cX12_book 57 = .ok (.iconst 0, 1) := by decide +kernel
theorem dX12_book_58 : decode cX12_book 58 = .ok (.invokevirtual 134, 3) := by decide +kernel
theorem dX12_book_61 : decode cX12_book 61 = .ok (.aload_n 0, 1) := by decide +kernel
theorem dX12_book_62 : decode cX12_book 62 = .ok (.getfield 22, 3) := by decide +kernel
theorem dX12_book_65 : decode cX12_book 65 = .ok (.iconst 1, 1) := by decide +kernel
theorem dX12_book_66 : decode cX12_book 66 = .ok (.aload_n 0, 1) := by decide +kernel
theorem dX12_book_67 : decode cX12_book 67 = .ok (.iconst 0, 1) := by decide +kernel
theorem dX12_book_68 : decode cX12_book 68 = .ok (.bipush 60, 2) := by decide +kernel
theorem dX12_book_70 : decode cX12_book 70 = .ok (.invokevirtual 141, 3) := by decide +kernel
theorem dX12_book_73 : decode cX12_book 73 = .ok (.iastore, 1) := by decide +kernel
theorem dX12_book_74 : decode cX12_book 74 = .ok (.aload_n 0, 1) := by decide +kernel
theorem dX12_book_75 : decode cX12_book 75 = .ok (.bipush 44, 2) := by decide +kernel
theorem dX12_book_77 : decode cX12_book 77 = .ok (.invokevirtual 145, 3) := by decide +kernel
theorem dX12_book_80 : decode cX12_book 80 = .ok (.aload_n 0, 1) := by decide +kernel
theorem dX12_book_81 : decode cX12_book 81 = .ok (.getfield 22, 3) := by decide +kernel
theorem dX12_book_84 : decode cX12_book 84 = .ok (.iconst 2, 1) := by decide +kernel
theorem dX12_book_85 : decode cX12_book 85 = .ok (.aload_n 0, 1) := by decide +kernel
theorem dX12_book_86 : decode cX12_book 86 = .ok (.iconst 0, 1) := by decide +kernel
theorem dX12_book_87 : decode cX12_book 87 = .ok (.bipush 20, 2) := by decide +kernel
theorem dX12_book_89 : decode cX12_book 89 = .ok (.invokevirtual 141, 3) := by decide +kernel
theorem dX12_book_92 : decode cX12_book 92 = .ok (.iastore, 1) := by decide +kernel
theorem dX12_book_93 : decode cX12_book 93 = .ok (.aload_n 0, 1) := by decide +kernel
theorem dX12_book_94 : decode cX12_book 94 = .ok (.bipush 59, 2) := by decide +kernel
theorem dX12_book_96 : decode cX12_book 96 = .ok (.invokevirtual 145, 3) := by decide +kernel
theorem dX12_book_99 : decode cX12_book 99 = .ok (.iconst 0, 1) := by decide +kernel
theorem dX12_book_100 : decode cX12_book 100 = .ok (.istore_n 1, 1) := by decide +kernel
theorem dX12_book_101 : decode cX12_book 101 = .ok (.iload_n 1, 1) := by decide +kernel
theorem dX12_book_102 : decode cX12_book 102 = .ok (.bipush 10, 2) := by decide +kernel
theorem dX12_book_104 : decode cX12_book 104 = .ok (.if_icmp .gt 32, 3) := by decide +kernel
theorem dX12_book_107 : decode cX12_book 107 = .ok (.aload_n 0, 1) := by decide +kernel
theorem dX12_book_108 : decode cX12_book 108 = .ok (.getfield 100, 3) := by decide +kernel
theorem dX12_book_111 : decode cX12_book 111 = .ok (.ifCond .ne 25, 3) := by decide +kernel
theorem dX12_book_114 : decode cX12_book 114 = .ok (.iload_n 1, 1) := by decide +kernel
theorem dX12_book_115 : decode cX12_book 115 = .ok (.ifCond .eq 11, 3) := by decide +kernel
theorem dX12_book_118 : decode cX12_book 118 = .ok (.aload_n 0, 1) := by decide +kernel
theorem dX12_book_119 : decode cX12_book 119 = .ok (.getfield 124, 3) := by decide +kernel
theorem dX12_book_122 : decode cX12_book 122 = .ok (.iconst 1, 1) := by decide +kernel
theorem dX12_book_123 : decode cX12_book 123 = .ok (.if_icmp .eq 13, 3) := by decide +kernel
theorem dX12_book_126 : decode cX12_book 126 = .ok (.aload_n 0, 1) := by decide +kernel
theorem dX12_book_127 : decode cX12_book 127 = .ok (.invokevirtual 148, 3) := by decide +kernel
theorem dX12_book_130 : decode cX12_book 130 = .ok (.iinc 1 1, 3) := by decide +kernel
theorem dX12_book_133 : decode cX12_book 133 = .ok (.goto (-32), 3) := by decide +kernel
theorem dX12_book_136 : decode cX12_book 136 = .ok (.aload_n 0, 1) := by decide +kernel
theorem dX12_book_137 : decode cX12_book 137 = .ok (.iconst 0, 1) := by decide +kernel
theorem dX12_book_138 : decode cX12_book 138 = .ok (.putfield 96, 3) := by decide +kernel
theorem dX12_book_141 : decode cX12_book 141 = .ok (.aload_n 0, 1) := by decide +kernel
theorem dX12_book_142 : decode cX12_book 142 = .ok (.getfield 100, 3) := by decide +kernel
theorem dX12_book_145 : decode cX12_book 145 = .ok (.ifCond .le 19, 3) := by decide +kernel
theorem dX12_book_148 : decode cX12_book 148 = .ok (.aload_n 0, 1) := by decide +kernel
theorem dX12_book_149 : decode cX12_book 149 = .ok (.aload_n 0, 1) := by decide +kernel
theorem dX12_book_150 : decode cX12_book 150 = .ok (.getfield 100, 3) := by decide +kernel
theorem dX12_book_153 : decode cX12_book 153 = .ok (.putfield 151, 3) := by decide +kernel
theorem dX12_book_156 : decode cX12_book 156 = .ok (.ldc 154, 2) := by decide +kernel
theorem dX12_book_158 : decode cX12_book 158 = .ok (.aload_n 0, 1) := by decide +kernel
theorem dX12_book_159 : decode cX12_book 159 = .ok (.getfield 106, 3) := by decide +kernel
theorem dX12_book_162 : decode cX12_book 162 = .ok (.isub, 1) := by decide +kernel
theorem dX12_book_163 : decode cX12_book 163 = .ok (.ireturn, 1) := by decide +kernel
theorem dX12_book_164 : decode cX12_book 164 = .ok (.aload_n 0, 1) := by decide +kernel
theorem dX12_book_165 : decode cX12_book 165 = .ok (.iconst 0, 1) := by decide +kernel
theorem dX12_book_166 : decode cX12_book 166 = .ok (.putfield 155, 3) := by decide +kernel
theorem dX12_book_169 : decode cX12_book 169 = .ok (.iconst 0, 1) := by decide +kernel
theorem dX12_book_170 : decode cX12_book 170 = .ok (.istore_n 1, 1) := by decide +kernel
theorem dX12_book_171 : decode cX12_book 171 = .ok (.iload_n 1, 1) := by decide +kernel
theorem dX12_book_172 : decode cX12_book 172 = .ok (.bipush 43, 2) := by decide +kernel
theorem dX12_book_174 : decode cX12_book 174 = .ok (.if_icmp .ge 21, 3) := by decide +kernel
theorem dX12_book_177 : decode cX12_book 177 = .ok (.aload_n 0, 1) := by decide +kernel
theorem dX12_book_178 : decode cX12_book 178 = .ok (.getfield 19, 3) := by decide +kernel
theorem dX12_book_181 : decode cX12_book 181 = .ok (.iload_n 1, 1) := by decide +kernel
theorem dX12_book_182 : decode cX12_book 182 = .ok (.aload_n 0, 1) := by decide +kernel
theorem dX12_book_183 : decode cX12_book 183 = .ok (.getfield 22, 3) := by decide +kernel
theorem dX12_book_186 : decode cX12_book 186 = .ok (.iload_n 1, 1) := by decide +kernel
theorem dX12_book_187 : decode cX12_book 187 = .ok (.iaload, 1) := by decide +kernel
theorem dX12_book_188 : decode cX12_book 188 = .ok (.iastore, 1) := by decide +kernel
theorem dX12_book_189 : decode cX12_book 189 = .ok (.iinc 1 1, 3) := by decide +kernel
theorem dX12_book_192 : decode cX12_book 192 = .ok (.goto (-21), 3) := by decide +kernel
theorem dX12_book_195 : decode cX12_book 195 = .ok (.aload_n 0, 1) := by decide +kernel
theorem dX12_book_196 : decode cX12_book 196 = .ok (.getfield 19, 3) := by decide +kernel
theorem dX12_book_199 : decode cX12_book 199 = .ok (.iconst 0, 1) := by decide +kernel
theorem dX12_book_200 : decode cX12_book 200 = .ok (.iaload, 1) := by decide +kernel
theorem dX12_book_201 : decode cX12_book 201 = .ok (.ireturn, 1) := by decide +kernel
theorem dX12_fault_0 : decode cX12_fault 0 = .ok (.aload_n 0, 1) := by decide +kernel
theorem dX12_fault_1 : decode cX12_fault 1 = .ok (.getfield 151, 3) := by decide +kernel
theorem dX12_fault_4 : decode cX12_fault 4 = .ok (.ireturn, 1) := by decide +kernel
theorem dX12_keeps_0 : decode cX12_keeps 0 = .ok (.aload_n 0, 1) := by decide +kernel
theorem dX12_keeps_1 : decode cX12_keeps 1 = .ok (.getfield 155, 3) := by decide +kernel
theorem dX12_keeps_4 : decode cX12_keeps 4 = .ok (.bipush 24, 2) := by decide +kernel
theorem dX12_keeps_6 : decode cX12_keeps 6 = .ok (.if_icmp .ne 43, 3) := by decide +kernel
theorem dX12_keeps_9 : decode cX12_keeps 9 = .ok (.iconst 0, 1) := by decide +kernel
theorem dX12_keeps_10 : decode cX12_keeps 10 = .ok (.istore_n 1, 1) := by decide +kernel
theorem dX12_keeps_11 : decode cX12_keeps 11 = .ok (.iload_n 1, 1) := by decide +kernel
theorem dX12_keeps_12 : decode cX12_keeps 12 = .ok (.sipush 989, 3) := by decide +kernel
theorem dX12_keeps_15 : decode cX12_keeps 15 = .ok (.if_icmp .ge 24, 3) := by decide +kernel
theorem dX12_keeps_18 : decode cX12_keeps 18 = .ok (.aload_n 0, 1) := by decide +kernel
theorem dX12_keeps_19 : decode cX12_keeps 19 = .ok (.getfield 28, 3) := by decide +kernel
theorem dX12_keeps_22 : decode cX12_keeps 22 = .ok (.iload_n 1, 1) := by decide +kernel
theorem dX12_keeps_23 : decode cX12_keeps 23 = .ok (.aload_n 0, 1) := by decide +kernel
theorem dX12_keeps_24 : decode cX12_keeps 24 = .ok (.getfield 28, 3) := by decide +kernel
theorem dX12_keeps_27 : decode cX12_keeps 27 = .ok (.iload_n 1, 1) := by decide +kernel
theorem dX12_keeps_28 : decode cX12_keeps 28 = .ok (.bipush 43, 2) := by decide +kernel
theorem dX12_keeps_30 : decode cX12_keeps 30 = .ok (.iadd, 1) := by decide +kernel
theorem dX12_keeps_31 : decode cX12_keeps 31 = .ok (.iaload, 1) := by decide +kernel
theorem dX12_keeps_32 : decode cX12_keeps 32 = .ok (.iastore, 1) := by decide +kernel
theorem dX12_keeps_33 : decode cX12_keeps 33 = .ok (.iinc 1 1, 3) := by decide +kernel
theorem dX12_keeps_36 : decode cX12_keeps 36 = .ok (.goto (-25), 3) := by decide +kernel
theorem dX12_keeps_39 : decode cX12_keeps 39 = .ok (.aload_n 0, 1) := by decide +kernel
theorem dX12_keeps_40 : decode cX12_keeps 40 = .ok (.dup, 1) := by decide +kernel
theorem dX12_keeps_41 : decode cX12_keeps 41 = .ok (.getfield 155, 3) := by decide +kernel
theorem dX12_keeps_44 : decode cX12_keeps 44 = .ok (.iconst 1, 1) := by decide +kernel
theorem dX12_keeps_45 : decode cX12_keeps 45 = .ok (.isub, 1) := by decide +kernel
theorem dX12_keeps_46 : decode cX12_keeps 46 = .ok (.putfield 155, 3) := by decide +kernel
theorem dX12_keeps_49 : decode cX12_keeps 49 = .ok (.iconst 0, 1) := by decide +kernel
theorem dX12_keeps_50 : decode cX12_keeps 50 = .ok (.istore_n 1, 1) := by decide +kernel
theorem dX12_keeps_51 : decode cX12_keeps 51 = .ok (.iload_n 1, 1) := by decide +kernel
theorem dX12_keeps_52 : decode cX12_keeps 52 = .ok (.bipush 43, 2) := by decide +kernel
theorem dX12_keeps_54 : decode cX12_keeps 54 = .ok (.if_icmp .ge 29, 3) := by decide +kernel
theorem dX12_keeps_57 : decode cX12_keeps 57 = .ok (.aload_n 0, 1) := by decide +kernel
theorem dX12_keeps_58 : decode cX12_keeps 58 = .ok (.getfield 28, 3) := by decide +kernel
theorem dX12_keeps_61 : decode cX12_keeps 61 = .ok (.bipush 43, 2) := by decide +kernel
theorem dX12_keeps_63 : decode cX12_keeps 63 = .ok (.aload_n 0, 1) := by decide +kernel
theorem dX12_keeps_64 : decode cX12_keeps 64 = .ok (.getfield 155, 3) := by decide +kernel
theorem dX12_keeps_67 : decode cX12_keeps 67 = .ok (.imul, 1) := by decide +kernel
theorem dX12_keeps_68 : decode cX12_keeps 68 = .ok (.iload_n 1, 1) := by decide +kernel
theorem dX12_keeps_69 : decode cX12_keeps 69 = .ok (.iadd, 1) := by decide +kernel
theorem dX12_keeps_70 : decode cX12_keeps 70 = .ok (.aload_n 0, 1) := by decide +kernel
theorem dX12_keeps_71 : decode cX12_keeps 71 = .ok (.getfield 19, 3) := by decide +kernel
theorem dX12_keeps_74 : decode cX12_keeps 74 = .ok (.iload_n 1, 1) := by decide +kernel
theorem dX12_keeps_75 : decode cX12_keeps 75 = .ok (.iaload, 1) := by decide +kernel
theorem dX12_keeps_76 : decode cX12_keeps 76 = .ok (.iastore, 1) := by decide +kernel
theorem dX12_keeps_77 : decode cX12_keeps 77 = .ok (.iinc 1 1, 3) := by decide +kernel
theorem dX12_keeps_80 : decode cX12_keeps 80 = .ok (.goto (-29), 3) := by decide +kernel
theorem dX12_keeps_83 : decode cX12_keeps 83 = .ok (.aload_n 0, 1) := by decide +kernel
theorem dX12_keeps_84 : decode cX12_keeps 84 = .ok (.dup, 1) := by decide +kernel
theorem dX12_keeps_85 : decode cX12_keeps 85 = .ok (.getfield 155, 3) := by decide +kernel
theorem dX12_keeps_88 : decode cX12_keeps 88 = .ok (.iconst 1, 1) := by decide +kernel
theorem dX12_keeps_89 : decode cX12_keeps 89 = .ok (.iadd, 1) := by decide +kernel
theorem dX12_keeps_90 : decode cX12_keeps 90 = .ok (.putfield 155, 3) := by decide +kernel
theorem dX12_keeps_93 : decode cX12_keeps 93 = .ok (.return_, 1) := by decide +kernel
theorem dX12_undo_0 : decode cX12_undo 0 = .ok (.aload_n 0, 1) := by decide +kernel
theorem dX12_undo_1 : decode cX12_undo 1 = .ok (.getfield 155, 3) := by decide +kernel
theorem dX12_undo_4 : decode cX12_undo 4 = .ok (.ifCond .ne 6, 3) := by decide +kernel
theorem dX12_undo_7 : decode cX12_undo 7 = .ok (.ldc 158, 2) := by decide +kernel
theorem dX12_undo_9 : decode cX12_undo 9 = .ok (.ireturn, 1) := by decide +kernel
theorem dX12_undo_10 : decode cX12_undo 10 = .ok (.aload_n 0, 1) := by decide +kernel
theorem dX12_undo_11 : decode cX12_undo 11 = .ok (.dup, 1) := by decide +kernel
theorem dX12_undo_12 : decode cX12_undo 12 = .ok (.getfield 155, 3) := by decide +kernel
theorem dX12_undo_15 : decode cX12_undo 15 = .ok (.iconst 1, 1) := by decide +kernel
theorem dX12_undo_16 : decode cX12_undo 16 = .ok (.isub, 1) := by decide +kernel
theorem dX12_undo_17 : decode cX12_undo 17 = .ok (.putfield 155, 3) := by decide +kernel
theorem dX12_undo_20 : decode cX12_undo 20 = .ok (.iconst 0, 1) := by decide +kernel
theorem dX12_undo_21 : decode cX12_undo 21 = .ok (.istore_n 1, 1) := by decide +kernel
theorem dX12_undo_22 : decode cX12_undo 22 = .ok (.iload_n 1, 1) := by decide +kernel
theorem dX12_undo_23 : decode cX12_undo 23 = .ok (.bipush 43, 2) := by decide +kernel
theorem dX12_undo_25 : decode cX12_undo 25 = .ok (.if_icmp .ge 29, 3) := by decide +kernel
theorem dX12_undo_28 : decode cX12_undo 28 = .ok (.aload_n 0, 1) := by decide +kernel
theorem dX12_undo_29 : decode cX12_undo 29 = .ok (.getfield 19, 3) := by decide +kernel
theorem dX12_undo_32 : decode cX12_undo 32 = .ok (.iload_n 1, 1) := by decide +kernel
theorem dX12_undo_33 : decode cX12_undo 33 = .ok (.aload_n 0, 1) := by decide +kernel
theorem dX12_undo_34 : decode cX12_undo 34 = .ok (.getfield 28, 3) := by decide +kernel
theorem dX12_undo_37 : decode cX12_undo 37 = .ok (.bipush 43, 2) := by decide +kernel
theorem dX12_undo_39 : decode cX12_undo 39 = .ok (.aload_n 0, 1) := by decide +kernel
theorem dX12_undo_40 : decode cX12_undo 40 = .ok (.getfield 155, 3) := by decide +kernel
theorem dX12_undo_43 : decode cX12_undo 43 = .ok (.imul, 1) := by decide +kernel
theorem dX12_undo_44 : decode cX12_undo 44 = .ok (.iload_n 1, 1) := by decide +kernel
theorem dX12_undo_45 : decode cX12_undo 45 = .ok (.iadd, 1) := by decide +kernel
theorem dX12_undo_46 : decode cX12_undo 46 = .ok (.iaload, 1) := by decide +kernel
theorem dX12_undo_47 : decode cX12_undo 47 = .ok (.iastore, 1) := by decide +kernel
theorem dX12_undo_48 : decode cX12_undo 48 = .ok (.iinc 1 1, 3) := by decide +kernel
theorem dX12_undo_51 : decode cX12_undo 51 = .ok (.goto (-29), 3) := by decide +kernel
theorem dX12_undo_54 : decode cX12_undo 54 = .ok (.aload_n 0, 1) := by decide +kernel
theorem dX12_undo_55 : decode cX12_undo 55 = .ok (.getfield 155, 3) := by decide +kernel
theorem dX12_undo_58 : decode cX12_undo 58 = .ok (.ireturn, 1) := by decide +kernel
theorem dX12_opens_0 : decode cX12_opens 0 = .ok (.iconst 3, 1) := by decide +kernel
theorem dX12_opens_1 : decode cX12_opens 1 = .ok (.iconst 4, 1) := by decide +kernel
theorem dX12_opens_2 : decode cX12_opens 2 = .ok (.aload_n 0, 1) := by decide +kernel
theorem dX12_opens_3 : decode cX12_opens 3 = .ok (.iconst 0, 1) := by decide +kernel
theorem dX12_opens_4 : decode cX12_opens 4 = .ok (.iaload, 1) := by decide +kernel
theorem dX12_opens_5 : decode cX12_opens 5 = .ok (.imul, 1) := by decide +kernel
theorem dX12_opens_6 : decode cX12_opens 6 = .ok (.iadd, 1) := by decide +kernel
theorem dX12_opens_7 : decode cX12_opens 7 = .ok (.iconst 1, 1) := by decide +kernel
theorem dX12_opens_8 : decode cX12_opens 8 = .ok (.isub, 1) := by decide +kernel
theorem dX12_opens_9 : decode cX12_opens 9 = .ok (.istore_n 2, 1) := by decide +kernel
theorem dX12_opens_10 : decode cX12_opens 10 = .ok (.iload_n 2, 1) := by decide +kernel
theorem dX12_opens_11 : decode cX12_opens 11 = .ok (.iconst 3, 1) := by decide +kernel
theorem dX12_opens_12 : decode cX12_opens 12 = .ok (.iconst 4, 1) := by decide +kernel
theorem dX12_opens_13 : decode cX12_opens 13 = .ok (.iload_n 1, 1) := by decide +kernel
theorem dX12_opens_14 : decode cX12_opens 14 = .ok (.imul, 1) := by decide +kernel
theorem dX12_opens_15 : decode cX12_opens 15 = .ok (.iadd, 1) := by decide +kernel
theorem dX12_opens_16 : decode cX12_opens 16 = .ok (.if_icmp .lt 17, 3) := by decide +kernel
theorem dX12_opens_19 : decode cX12_opens 19 = .ok (.aload_n 0, 1) := by decide +kernel
theorem dX12_opens_20 : decode cX12_opens 20 = .ok (.iload_n 2, 1) := by decide +kernel
theorem dX12_opens_21 : decode cX12_opens 21 = .ok (.iconst 4, 1) := by decide +kernel
theorem dX12_opens_22 : decode cX12_opens 22 = .ok (.iadd, 1) := by decide +kernel
theorem dX12_opens_23 : decode cX12_opens 23 = .ok (.aload_n 0, 1) := by decide +kernel
theorem dX12_opens_24 : decode cX12_opens 24 = .ok (.iload_n 2, 1) := by decide +kernel
theorem dX12_opens_25 : decode cX12_opens 25 = .ok (.iaload, 1) := by decide +kernel
theorem dX12_opens_26 : decode cX12_opens 26 = .ok (.iastore, 1) := by decide +kernel
theorem dX12_opens_27 : decode cX12_opens 27 = .ok (.iinc 2 (-1), 3) := by decide +kernel
theorem dX12_opens_30 : decode cX12_opens 30 = .ok (.goto (-20), 3) := by decide +kernel
theorem dX12_opens_33 : decode cX12_opens 33 = .ok (.aload_n 0, 1) := by decide +kernel
theorem dX12_opens_34 : decode cX12_opens 34 = .ok (.iconst 0, 1) := by decide +kernel
theorem dX12_opens_35 : decode cX12_opens 35 = .ok (.dup2, 1) := by decide +kernel
theorem dX12_opens_36 : decode cX12_opens 36 = .ok (.iaload, 1) := by decide +kernel
theorem dX12_opens_37 : decode cX12_opens 37 = .ok (.iconst 1, 1) := by decide +kernel
theorem dX12_opens_38 : decode cX12_opens 38 = .ok (.iadd, 1) := by decide +kernel
theorem dX12_opens_39 : decode cX12_opens 39 = .ok (.iastore, 1) := by decide +kernel
theorem dX12_opens_40 : decode cX12_opens 40 = .ok (.return_, 1) := by decide +kernel
theorem dX12_closes_0 : decode cX12_closes 0 = .ok (.iconst 3, 1) := by decide +kernel
theorem dX12_closes_1 : decode cX12_closes 1 = .ok (.iconst 4, 1) := by decide +kernel
theorem dX12_closes_2 : decode cX12_closes 2 = .ok (.iload_n 1, 1) := by decide +kernel
theorem dX12_closes_3 : decode cX12_closes 3 = .ok (.imul, 1) := by decide +kernel
theorem dX12_closes_4 : decode cX12_closes 4 = .ok (.iadd, 1) := by decide +kernel
theorem dX12_closes_5 : decode cX12_closes 5 = .ok (.istore_n 2, 1) := by decide +kernel
theorem dX12_closes_6 : decode cX12_closes 6 = .ok (.iload_n 2, 1) := by decide +kernel
theorem dX12_closes_7 : decode cX12_closes 7 = .ok (.iconst 3, 1) := by decide +kernel
theorem dX12_closes_8 : decode cX12_closes 8 = .ok (.iconst 4, 1) := by decide +kernel
theorem dX12_closes_9 : decode cX12_closes 9 = .ok (.aload_n 0, 1) := by decide +kernel
theorem dX12_closes_10 : decode cX12_closes 10 = .ok (.iconst 0, 1) := by decide +kernel
theorem dX12_closes_11 : decode cX12_closes 11 = .ok (.iaload, 1) := by decide +kernel
theorem dX12_closes_12 : decode cX12_closes 12 = .ok (.imul, 1) := by decide +kernel
theorem dX12_closes_13 : decode cX12_closes 13 = .ok (.iadd, 1) := by decide +kernel
theorem dX12_closes_14 : decode cX12_closes 14 = .ok (.iconst 4, 1) := by decide +kernel
theorem dX12_closes_15 : decode cX12_closes 15 = .ok (.isub, 1) := by decide +kernel
theorem dX12_closes_16 : decode cX12_closes 16 = .ok (.if_icmp .ge 17, 3) := by decide +kernel
theorem dX12_closes_19 : decode cX12_closes 19 = .ok (.aload_n 0, 1) := by decide +kernel
theorem dX12_closes_20 : decode cX12_closes 20 = .ok (.iload_n 2, 1) := by decide +kernel
theorem dX12_closes_21 : decode cX12_closes 21 = .ok (.aload_n 0, 1) := by decide +kernel
theorem dX12_closes_22 : decode cX12_closes 22 = .ok (.iload_n 2, 1) := by decide +kernel
theorem dX12_closes_23 : decode cX12_closes 23 = .ok (.iconst 4, 1) := by decide +kernel
theorem dX12_closes_24 : decode cX12_closes 24 = .ok (.iadd, 1) := by decide +kernel
theorem dX12_closes_25 : decode cX12_closes 25 = .ok (.iaload, 1) := by decide +kernel
theorem dX12_closes_26 : decode cX12_closes 26 = .ok (.iastore, 1) := by decide +kernel
theorem dX12_closes_27 : decode cX12_closes 27 = .ok (.iinc 2 1, 3) := by decide +kernel
theorem dX12_closes_30 : decode cX12_closes 30 = .ok (.goto (-24), 3) := by decide +kernel
theorem dX12_closes_33 : decode cX12_closes 33 = .ok (.aload_n 0, 1) := by decide +kernel
theorem dX12_closes_34 : decode cX12_closes 34 = .ok (.iconst 0, 1) := by decide +kernel
theorem dX12_closes_35 : decode cX12_closes 35 = .ok (.dup2, 1) := by decide +kernel
theorem dX12_closes_36 : decode cX12_closes 36 = .ok (.iaload, 1) := by decide +kernel
theorem dX12_closes_37 : decode cX12_closes 37 = .ok (.iconst 1, 1) := by decide +kernel
theorem dX12_closes_38 : decode cX12_closes 38 = .ok (.isub, 1) := by decide +kernel
theorem dX12_closes_39 : decode cX12_closes 39 = .ok (.iastore, 1) := by decide +kernel
theorem dX12_closes_40 : decode cX12_closes 40 = .ok (.return_, 1) := by decide +kernel
theorem dX12_lays_0 : decode cX12_lays 0 = .ok (.iconst 3, 1) := by decide +kernel
theorem dX12_lays_1 : decode cX12_lays 1 = .ok (.iconst 4, 1) := by decide +kernel
theorem dX12_lays_2 : decode cX12_lays 2 = .ok (.iload_n 1, 1) := by decide +kernel
theorem dX12_lays_3 : decode cX12_lays 3 = .ok (.imul, 1) := by decide +kernel
theorem dX12_lays_4 : decode cX12_lays 4 = .ok (.iadd, 1) := by decide +kernel
theorem dX12_lays_5 : decode cX12_lays 5 = .ok (.istore 6, 2) := by decide +kernel
theorem dX12_lays_7 : decode cX12_lays 7 = .ok (.aload_n 0, 1) := by decide +kernel
theorem dX12_lays_8 : decode cX12_lays 8 = .ok (.iload 6, 2) := by decide +kernel
theorem dX12_lays_10 : decode cX12_lays 10 = .ok (.iload_n 2, 1) := by decide +kernel
theorem dX12_lays_11 : decode cX12_lays 11 = .ok (.iastore, 1) := by decide +kernel
theorem dX12_lays_12 : decode cX12_lays 12 = .ok (.aload_n 0, 1) := by decide +kernel
theorem dX12_lays_13 : decode cX12_lays 13 = .ok (.iload 6, 2) := by decide +kernel
theorem dX12_lays_15 : decode cX12_lays 15 = .ok (.iconst 1, 1) := by decide +kernel
theorem dX12_lays_16 : decode cX12_lays 16 = .ok (.iadd, 1) := by decide +kernel
theorem dX12_lays_17 : decode cX12_lays 17 = .ok (.iload_n 3, 1) := by decide +kernel
theorem dX12_lays_18 : decode cX12_lays 18 = .ok (.iastore, 1) := by decide +kernel
theorem dX12_lays_19 : decode cX12_lays 19 = .ok (.aload_n 0, 1) := by decide +kernel
theorem dX12_lays_20 : decode cX12_lays 20 = .ok (.iload 6, 2) := by decide +kernel
theorem dX12_lays_22 : decode cX12_lays 22 = .ok (.iconst 2, 1) := by decide +kernel
theorem dX12_lays_23 : decode cX12_lays 23 = .ok (.iadd, 1) := by decide +kernel
theorem dX12_lays_24 : decode cX12_lays 24 = .ok (.iload 4, 2) := by decide +kernel
theorem dX12_lays_26 : decode cX12_lays 26 = .ok (.iastore, 1) := by decide +kernel
theorem dX12_lays_27 : decode cX12_lays 27 = .ok (.aload_n 0, 1) := by decide +kernel
theorem dX12_lays_28 : decode cX12_lays 28 = .ok (.iload 6, 2) := by decide +kernel
theorem dX12_lays_30 : decode cX12_lays 30 = .ok (.iconst 3, 1) := by decide +kernel
theorem dX12_lays_31 : decode cX12_lays 31 = .ok (.iadd, 1) := by decide +kernel
theorem dX12_lays_32 : decode cX12_lays 32 = .ok (.iload 5, 2) := by decide +kernel
theorem dX12_lays_34 : decode cX12_lays 34 = .ok (.iastore, 1) := by decide +kernel
theorem dX12_lays_35 : decode cX12_lays 35 = .ok (.return_, 1) := by decide +kernel
theorem dX12_put_0 : decode cX12_put 0 = .ok (.aload_n 0, 1) := by decide +kernel
theorem dX12_put_1 : decode cX12_put 1 = .ok (.invokevirtual 159, 3) := by decide +kernel
theorem dX12_put_4 : decode cX12_put 4 = .ok (.ifCond .ne 6, 3) := by decide +kernel
theorem dX12_put_7 : decode cX12_put 7 = .ok (.ldc 158, 2) := by decide +kernel
theorem dX12_put_9 : decode cX12_put 9 = .ok (.ireturn, 1) := by decide +kernel
theorem dX12_put_10 : decode cX12_put 10 = .ok (.iload_n 1, 1) := by decide +kernel
theorem dX12_put_11 : decode cX12_put 11 = .ok (.i2l, 1) := by decide +kernel
theorem dX12_put_12 : decode cX12_put 12 = .ok (.lconst 0, 1) := by decide +kernel
theorem dX12_put_13 : decode cX12_put 13 = .ok (.aload_n 0, 1) := by decide +kernel
theorem dX12_put_14 : decode cX12_put 14 = .ok (.getfield 19, 3) := by decide +kernel
theorem dX12_put_17 : decode cX12_put 17 = .ok (.iconst 0, 1) := by decide +kernel
theorem dX12_put_18 : decode cX12_put 18 = .ok (.iaload, 1) := by decide +kernel
theorem dX12_put_19 : decode cX12_put 19 = .ok (.i2l, 1) := by decide +kernel
theorem dX12_put_20 : decode cX12_put 20 = .ok (.invokestatic 75, 3) := by decide +kernel
theorem dX12_put_23 : decode cX12_put 23 = .ok (.ifCond .eq 53, 3) := by decide +kernel
theorem dX12_put_26 : decode cX12_put 26 = .ok (.iload_n 2, 1) := by decide +kernel
theorem dX12_put_27 : decode cX12_put 27 = .ok (.i2l, 1) := by decide +kernel
theorem dX12_put_28 : decode cX12_put 28 = .ok (.lconst 1, 1) := by decide +kernel
theorem dX12_put_29 : decode cX12_put 29 = .ok (.ldc2_w 163, 3) := by decide +kernel
theorem dX12_put_32 : decode cX12_put 32 = .ok (.invokestatic 75, 3) := by decide +kernel
theorem dX12_put_35 : decode cX12_put 35 = .ok (.ifCond .eq 41, 3) := by decide +kernel
theorem dX12_put_38 : decode cX12_put 38 = .ok (.iload_n 3, 1) := by decide +kernel
theorem dX12_put_39 : decode cX12_put 39 = .ok (.i2l, 1) := by decide +kernel
theorem dX12_put_40 : decode cX12_put 40 = .ok (.lconst 0, 1) := by decide +kernel
theorem dX12_put_41 : decode cX12_put 41 = .ok (.ldc2_w 165, 3) := by decide +kernel
theorem dX12_put_44 : decode cX12_put 44 = .ok (.invokestatic 75, 3) := by decide +kernel
theorem dX12_put_47 : decode cX12_put 47 = .ok (.ifCond .eq 29, 3) := by decide +kernel
theorem dX12_put_50 : decode cX12_put 50 = .ok (.iload 4, 2) := by decide +kernel
theorem dX12_put_52 : decode cX12_put 52 = .ok (.i2l, 1) := by decide +kernel
theorem dX12_put_53 : decode cX12_put 53 = .ok (.lconst 0, 1) := by decide +kernel
theorem dX12_put_54 : decode cX12_put 54 = .ok (.ldc2_w 165, 3) := by decide +kernel
theorem dX12_put_57 : decode cX12_put 57 = .ok (.invokestatic 75, 3) := by decide +kernel
theorem dX12_put_60 : decode cX12_put 60 = .ok (.ifCond .eq 16, 3) := by decide +kernel
theorem dX12_put_63 : decode cX12_put 63 = .ok (.iload 5, 2) := by decide +kernel
theorem dX12_put_65 : decode cX12_put 65 = .ok (.i2l, 1) := by decide +kernel
theorem dX12_put_66 : decode cX12_put 66 = .ok (.lconst 0, 1) := by decide +kernel
theorem dX12_put_67 : decode cX12_put 67 = .ok (.ldc2_w 165, 3) := by decide +kernel
theorem dX12_put_70 : decode cX12_put 70 = .ok (.invokestatic 75, 3) := by decide +kernel
theorem dX12_put_73 : decode cX12_put 73 = .ok (.ifCond .ne 6, 3) := by decide +kernel
theorem dX12_put_76 : decode cX12_put 76 = .ok (.ldc 85, 2) := by decide +kernel
theorem dX12_put_78 : decode cX12_put 78 = .ok (.ireturn, 1) := by decide +kernel
theorem dX12_put_79 : decode cX12_put 79 = .ok (.aload_n 0, 1) := by decide +kernel
theorem dX12_put_80 : decode cX12_put 80 = .ok (.getfield 19, 3) := by decide +kernel
theorem dX12_put_83 : decode cX12_put 83 = .ok (.iconst 0, 1) := by decide +kernel
theorem dX12_put_84 : decode cX12_put 84 = .ok (.iaload, 1) := by decide +kernel
theorem dX12_put_85 : decode cX12_put 85 = .ok (.bipush 10, 2) := by decide +kernel
theorem dX12_put_87 : decode cX12_put 87 = .ok (.if_icmp .ne 6, 3) := by decide +kernel
theorem dX12_put_90 : decode cX12_put 90 = .ok (.ldc 99, 2) := by decide +kernel
theorem dX12_put_92 : decode cX12_put 92 = .ok (.ireturn, 1) := by decide +kernel
theorem dX12_put_93 : decode cX12_put 93 = .ok (.aload_n 0, 1) := by decide +kernel
theorem dX12_put_94 : decode cX12_put 94 = .ok (.invokevirtual 167, 3) := by decide +kernel
theorem dX12_put_97 : decode cX12_put 97 = .ok (.aload_n 0, 1) := by decide +kernel
theorem dX12_put_98 : decode cX12_put 98 = .ok (.getfield 19, 3) := by decide +kernel
theorem dX12_put_101 : decode cX12_put 101 = .ok (.iload_n 1, 1) := by decide +kernel
theorem dX12_put_102 : decode cX12_put 102 = .ok (.invokestatic 170, 3) := by decide +kernel
theorem dX12_put_105 : decode cX12_put 105 = .ok (.aload_n 0, 1) := by decide +kernel
theorem dX12_put_106 : decode cX12_put 106 = .ok (.getfield 19, 3) := by decide +kernel
theorem dX12_put_109 : decode cX12_put 109 = .ok (.iload_n 1, 1) := by decide +kernel
theorem dX12_put_110 : decode cX12_put 110 = .ok (.iload_n 2, 1) := by decide +kernel
theorem dX12_put_111 : decode cX12_put 111 = .ok (.iload_n 3, 1) := by decide +kernel
theorem dX12_put_112 : decode cX12_put 112 = .ok (.iload 4, 2) := by decide +kernel
theorem dX12_put_114 : decode cX12_put 114 = .ok (.iload 5, 2) := by decide +kernel
theorem dX12_put_116 : decode cX12_put 116 = .ok (.invokestatic 174, 3) := by decide +kernel
theorem dX12_put_119 : decode cX12_put 119 = .ok (.aload_n 0, 1) := by decide +kernel
theorem dX12_put_120 : decode cX12_put 120 = .ok (.getfield 19, 3) := by decide +kernel
theorem dX12_put_123 : decode cX12_put 123 = .ok (.iconst 0, 1) := by decide +kernel
theorem dX12_put_124 : decode cX12_put 124 = .ok (.iaload, 1) := by decide +kernel
theorem dX12_put_125 : decode cX12_put 125 = .ok (.ireturn, 1) := by decide +kernel
theorem dX12_take_0 : decode cX12_take 0 = .ok (.aload_n 0, 1) := by decide +kernel
theorem dX12_take_1 : decode cX12_take 1 = .ok (.iload_n 1, 1) := by decide +kernel
theorem dX12_take_2 : decode cX12_take 2 = .ok (.invokevirtual 178, 3) := by decide +kernel
theorem dX12_take_5 : decode cX12_take 5 = .ok (.ifCond .ne 6, 3) := by decide +kernel
theorem dX12_take_8 : decode cX12_take 8 = .ok (.ldc 85, 2) := by decide +kernel
theorem dX12_take_10 : decode cX12_take 10 = .ok (.ireturn, 1) := by decide +kernel
theorem dX12_take_11 : decode cX12_take 11 = .ok (.aload_n 0, 1) := by decide +kernel
theorem dX12_take_12 : decode cX12_take 12 = .ok (.getfield 19, 3) := by decide +kernel
theorem dX12_take_15 : decode cX12_take 15 = .ok (.iconst 0, 1) := by decide +kernel
theorem dX12_take_16 : decode cX12_take 16 = .ok (.iaload, 1) := by decide +kernel
theorem dX12_take_17 : decode cX12_take 17 = .ok (.iconst 1, 1) := by decide +kernel
theorem dX12_take_18 : decode cX12_take 18 = .ok (.if_icmp .ne 6, 3) := by decide +kernel
theorem dX12_take_21 : decode cX12_take 21 = .ok (.ldc 158, 2) := by decide +kernel
theorem dX12_take_23 : decode cX12_take 23 = .ok (.ireturn, 1) := by decide +kernel
theorem dX12_take_24 : decode cX12_take 24 = .ok (.aload_n 0, 1) := by decide +kernel
theorem dX12_take_25 : decode cX12_take 25 = .ok (.invokevirtual 167, 3) := by decide +kernel
theorem dX12_take_28 : decode cX12_take 28 = .ok (.aload_n 0, 1) := by decide +kernel
theorem dX12_take_29 : decode cX12_take 29 = .ok (.getfield 19, 3) := by decide +kernel
theorem dX12_take_32 : decode cX12_take 32 = .ok (.iload_n 1, 1) := by decide +kernel
theorem dX12_take_33 : decode cX12_take 33 = .ok (.invokestatic 181, 3) := by decide +kernel
theorem dX12_take_36 : decode cX12_take 36 = .ok (.aload_n 0, 1) := by decide +kernel
theorem dX12_take_37 : decode cX12_take 37 = .ok (.getfield 19, 3) := by decide +kernel
theorem dX12_take_40 : decode cX12_take 40 = .ok (.iconst 0, 1) := by decide +kernel
theorem dX12_take_41 : decode cX12_take 41 = .ok (.iaload, 1) := by decide +kernel
theorem dX12_take_42 : decode cX12_take 42 = .ok (.ireturn, 1) := by decide +kernel
theorem dX12_move_0 : decode cX12_move 0 = .ok (.aload_n 0, 1) := by decide +kernel
theorem dX12_move_1 : decode cX12_move 1 = .ok (.iload_n 1, 1) := by decide +kernel
theorem dX12_move_2 : decode cX12_move 2 = .ok (.invokevirtual 178, 3) := by decide +kernel
theorem dX12_move_5 : decode cX12_move 5 = .ok (.ifCond .eq 11, 3) := by decide +kernel
theorem dX12_move_8 : decode cX12_move 8 = .ok (.aload_n 0, 1) := by decide +kernel
theorem dX12_move_9 : decode cX12_move 9 = .ok (.iload_n 2, 1) := by decide +kernel
theorem dX12_move_10 : decode cX12_move 10 = .ok (.invokevirtual 178, 3) := by decide +kernel
theorem dX12_move_13 : decode cX12_move 13 = .ok (.ifCond .ne 6, 3) := by decide +kernel
theorem dX12_move_16 : decode cX12_move 16 = .ok (.ldc 85, 2) := by decide +kernel
theorem dX12_move_18 : decode cX12_move 18 = .ok (.ireturn, 1) := by decide +kernel
theorem dX12_move_19 : decode cX12_move 19 = .ok (.iload_n 1, 1) := by decide +kernel
theorem dX12_move_20 : decode cX12_move 20 = .ok (.iload_n 2, 1) := by decide +kernel
theorem dX12_move_21 : decode cX12_move 21 = .ok (.if_icmp .ne 6, 3) := by decide +kernel
theorem dX12_move_24 : decode cX12_move 24 = .ok (.ldc 158, 2) := by decide +kernel
theorem dX12_move_26 : decode cX12_move 26 = .ok (.ireturn, 1) := by decide +kernel
theorem dX12_move_27 : decode cX12_move 27 = .ok (.aload_n 0, 1) := by decide +kernel
theorem dX12_move_28 : decode cX12_move 28 = .ok (.invokevirtual 167, 3) := by decide +kernel
theorem dX12_move_31 : decode cX12_move 31 = .ok (.iconst 3, 1) := by decide +kernel
theorem dX12_move_32 : decode cX12_move 32 = .ok (.iconst 4, 1) := by decide +kernel
theorem dX12_move_33 : decode cX12_move 33 = .ok (.iload_n 1, 1) := by decide +kernel
theorem dX12_move_34 : decode cX12_move 34 = .ok (.imul, 1) := by decide +kernel
theorem dX12_move_35 : decode cX12_move 35 = .ok (.iadd, 1) := by decide +kernel
theorem dX12_move_36 : decode cX12_move 36 = .ok (.istore_n 3, 1) := by decide +kernel
theorem dX12_move_37 : decode cX12_move 37 = .ok (.aload_n 0, 1) := by decide +kernel
theorem dX12_move_38 : decode cX12_move 38 = .ok (.getfield 19, 3) := by decide +kernel
theorem dX12_move_41 : decode cX12_move 41 = .ok (.iload_n 3, 1) := by decide +kernel
theorem dX12_move_42 : decode cX12_move 42 = .ok (.iaload, 1) := by decide +kernel
theorem dX12_move_43 : decode cX12_move 43 = .ok (.istore 4, 2) := by decide +kernel
theorem dX12_move_45 : decode cX12_move 45 = .ok (.aload_n 0, 1) := by decide +kernel
theorem dX12_move_46 : decode cX12_move 46 = .ok (.getfield 19, 3) := by decide +kernel
theorem dX12_move_49 : decode cX12_move 49 = .ok (.iload_n 3, 1) := by decide +kernel
theorem dX12_move_50 : decode cX12_move 50 = .ok (.iconst 1, 1) := by decide +kernel
theorem dX12_move_51 : decode cX12_move 51 = .ok (.iadd, 1) := by decide +kernel
theorem dX12_move_52 : decode cX12_move 52 = .ok (.iaload, 1) := by decide +kernel
theorem dX12_move_53 : decode cX12_move 53 = .ok (.istore 5, 2) := by decide +kernel
theorem dX12_move_55 : decode cX12_move 55 = .ok (.aload_n 0, 1) := by decide +kernel
theorem dX12_move_56 : decode cX12_move 56 = .ok (.getfield 19, 3) := by decide +kernel
theorem dX12_move_59 : decode cX12_move 59 = .ok (.iload_n 3, 1) := by decide +kernel
theorem dX12_move_60 : decode cX12_move 60 = .ok (.iconst 2, 1) := by decide +kernel
theorem dX12_move_61 : decode cX12_move 61 = .ok (.iadd, 1) := by decide +kernel
theorem dX12_move_62 : decode cX12_move 62 = .ok (.iaload, 1) := by decide +kernel
theorem dX12_move_63 : decode cX12_move 63 = .ok (.istore 6, 2) := by decide +kernel
theorem dX12_move_65 : decode cX12_move 65 = .ok (.aload_n 0, 1) := by decide +kernel
theorem dX12_move_66 : decode cX12_move 66 = .ok (.getfield 19, 3) := by decide +kernel
theorem dX12_move_69 : decode cX12_move 69 = .ok (.iload_n 3, 1) := by decide +kernel
theorem dX12_move_70 : decode cX12_move 70 = .ok (.iconst 3, 1) := by decide +kernel
theorem dX12_move_71 : decode cX12_move 71 = .ok (.iadd, 1) := by decide +kernel
theorem dX12_move_72 : decode cX12_move 72 = .ok (.iaload, 1) := by decide +kernel
theorem dX12_move_73 : decode cX12_move 73 = .ok (.istore 7, 2) := by decide +kernel
theorem dX12_move_75 : decode cX12_move 75 = .ok (.aload_n 0, 1) := by decide +kernel
theorem dX12_move_76 : decode cX12_move 76 = .ok (.getfield 19, 3) := by decide +kernel
theorem dX12_move_79 : decode cX12_move 79 = .ok (.iload_n 1, 1) := by decide +kernel
theorem dX12_move_80 : decode cX12_move 80 = .ok (.invokestatic 181, 3) := by decide +kernel
theorem dX12_move_83 : decode cX12_move 83 = .ok (.aload_n 0, 1) := by decide +kernel
theorem dX12_move_84 : decode cX12_move 84 = .ok (.getfield 19, 3) := by decide +kernel
theorem dX12_move_87 : decode cX12_move 87 = .ok (.iload_n 2, 1) := by decide +kernel
theorem dX12_move_88 : decode cX12_move 88 = .ok (.invokestatic 170, 3) := by decide +kernel
theorem dX12_move_91 : decode cX12_move 91 = .ok (.aload_n 0, 1) := by decide +kernel
theorem dX12_move_92 : decode cX12_move 92 = .ok (.getfield 19, 3) := by decide +kernel
theorem dX12_move_95 : decode cX12_move 95 = .ok (.iload_n 2, 1) := by decide +kernel
theorem dX12_move_96 : decode cX12_move 96 = .ok (.iload 4, 2) := by decide +kernel
theorem dX12_move_98 : decode cX12_move 98 = .ok (.iload 5, 2) := by decide +kernel
theorem dX12_move_100 : decode cX12_move 100 = .ok (.iload 6, 2) := by decide +kernel
theorem dX12_move_102 : decode cX12_move 102 = .ok (.iload 7, 2) := by decide +kernel
theorem dX12_move_104 : decode cX12_move 104 = .ok (.invokestatic 174, 3) := by decide +kernel
theorem dX12_move_107 : decode cX12_move 107 = .ok (.iload 4, 2) := by decide +kernel
theorem dX12_move_109 : decode cX12_move 109 = .ok (.ireturn, 1) := by decide +kernel
theorem dX12_measure_0 : decode cX12_measure 0 = .ok (.aload_n 0, 1) := by decide +kernel
theorem dX12_measure_1 : decode cX12_measure 1 = .ok (.iload_n 1, 1) := by decide +kernel
theorem dX12_measure_2 : decode cX12_measure 2 = .ok (.invokevirtual 178, 3) := by decide +kernel
theorem dX12_measure_5 : decode cX12_measure 5 = .ok (.ifCond .eq 27, 3) := by decide +kernel
theorem dX12_measure_8 : decode cX12_measure 8 = .ok (.iload_n 2, 1) := by decide +kernel
theorem dX12_measure_9 : decode cX12_measure 9 = .ok (.i2l, 1) := by decide +kernel
theorem dX12_measure_10 : decode cX12_measure 10 = .ok (.lconst 0, 1) := by decide +kernel
theorem dX12_measure_11 : decode cX12_measure 11 = .ok (.ldc2_w 83, 3) := by decide +kernel
theorem dX12_measure_14 : decode cX12_measure 14 = .ok (.invokestatic 75, 3) := by decide +kernel
theorem dX12_measure_17 : decode cX12_measure 17 = .ok (.ifCond .eq 15, 3) := by decide +kernel
theorem dX12_measure_20 : decode cX12_measure 20 = .ok (.iload_n 3, 1) := by decide +kernel
theorem dX12_measure_21 : decode cX12_measure 21 = .ok (.i2l, 1) := by decide +kernel
theorem dX12_measure_22 : decode cX12_measure 22 = .ok (.lconst 0, 1) := by decide +kernel
theorem dX12_measure_23 : decode cX12_measure 23 = .ok (.ldc2_w 165, 3) := by decide +kernel
theorem dX12_measure_26 : decode cX12_measure 26 = .ok (.invokestatic 75, 3) := by decide +kernel
theorem dX12_measure_29 : decode cX12_measure 29 = .ok (.ifCond .ne 6, 3) := by decide +kernel
theorem dX12_measure_32 : decode cX12_measure 32 = .ok (.ldc 85, 2) := by decide +kernel
theorem dX12_measure_34 : decode cX12_measure 34 = .ok (.ireturn, 1) := by decide +kernel
theorem dX12_measure_35 : decode cX12_measure 35 = .ok (.iconst 3, 1) := by decide +kernel
theorem dX12_measure_36 : decode cX12_measure 36 = .ok (.iconst 4, 1) := by decide +kernel
theorem dX12_measure_37 : decode cX12_measure 37 = .ok (.iload_n 1, 1) := by decide +kernel
theorem dX12_measure_38 : decode cX12_measure 38 = .ok (.imul, 1) := by decide +kernel
theorem dX12_measure_39 : decode cX12_measure 39 = .ok (.iadd, 1) := by decide +kernel
theorem dX12_measure_40 : decode cX12_measure 40 = .ok (.iconst 1, 1) := by decide +kernel
theorem dX12_measure_41 : decode cX12_measure 41 = .ok (.iadd, 1) := by decide +kernel
theorem dX12_measure_42 : decode cX12_measure 42 = .ok (.iload_n 2, 1) := by decide +kernel
theorem dX12_measure_43 : decode cX12_measure 43 = .ok (.iadd, 1) := by decide +kernel
theorem dX12_measure_44 : decode cX12_measure 44 = .ok (.istore 4, 2) := by decide +kernel
theorem dX12_measure_46 : decode cX12_measure 46 = .ok (.aload_n 0, 1) := by decide +kernel
theorem dX12_measure_47 : decode cX12_measure 47 = .ok (.getfield 19, 3) := by decide +kernel
theorem dX12_measure_50 : decode cX12_measure 50 = .ok (.iload 4, 2) := by decide +kernel
theorem dX12_measure_52 : decode cX12_measure 52 = .ok (.iaload, 1) := by decide +kernel
theorem dX12_measure_53 : decode cX12_measure 53 = .ok (.istore 5, 2) := by decide +kernel
theorem dX12_measure_55 : decode cX12_measure 55 = .ok (.aload_n 0, 1) := by decide +kernel
theorem dX12_measure_56 : decode cX12_measure 56 = .ok (.invokevirtual 167, 3) := by decide +kernel
theorem dX12_measure_59 : decode cX12_measure 59 = .ok (.aload_n 0, 1) := by decide +kernel
theorem dX12_measure_60 : decode cX12_measure 60 = .ok (.getfield 19, 3) := by decide +kernel
theorem dX12_measure_63 : decode cX12_measure 63 = .ok (.iload 4, 2) := by decide +kernel
theorem dX12_measure_65 : decode cX12_measure 65 = .ok (.iload_n 3, 1) := by decide +kernel
theorem dX12_measure_66 : decode cX12_measure 66 = .ok (.iastore, 1) := by decide +kernel
theorem dX12_measure_67 : decode cX12_measure 67 = .ok (.iload 5, 2) := by decide +kernel
theorem dX12_measure_69 : decode cX12_measure 69 = .ok (.ireturn, 1) := by decide +kernel
theorem dX12_become_0 : decode cX12_become 0 = .ok (.aload_n 0, 1) := by decide +kernel
theorem dX12_become_1 : decode cX12_become 1 = .ok (.iload_n 1, 1) := by decide +kernel
theorem dX12_become_2 : decode cX12_become 2 = .ok (.invokevirtual 178, 3) := by decide +kernel
theorem dX12_become_5 : decode cX12_become 5 = .ok (.ifCond .eq 15, 3) := by decide +kernel
theorem dX12_become_8 : decode cX12_become 8 = .ok (.iload_n 2, 1) := by decide +kernel
theorem dX12_become_9 : decode cX12_become 9 = .ok (.i2l, 1) := by decide +kernel
theorem dX12_become_10 : decode cX12_become 10 = .ok (.lconst 1, 1) := by decide +kernel
theorem dX12_become_11 : decode cX12_become 11 = .ok (.ldc2_w 163, 3) := by decide +kernel
theorem dX12_become_14 : decode cX12_become 14 = .ok (.invokestatic 75, 3) := by decide +kernel
theorem dX12_become_17 : decode cX12_become 17 = .ok (.ifCond .ne 6, 3) := by decide +kernel
theorem dX12_become_20 : decode cX12_become 20 = .ok (.ldc 85, 2) := by decide +kernel
theorem dX12_become_22 : decode cX12_become 22 = .ok (.ireturn, 1) := by decide +kernel
theorem dX12_become_23 : decode cX12_become 23 = .ok (.aload_n 0, 1) := by decide +kernel
theorem dX12_become_24 : decode cX12_become 24 = .ok (.getfield 19, 3) := by decide +kernel
theorem dX12_become_27 : decode cX12_become 27 = .ok (.iload_n 1, 1) := by decide +kernel
theorem dX12_become_28 : decode cX12_become 28 = .ok (.invokestatic 184, 3) := by decide +kernel
theorem dX12_become_31 : decode cX12_become 31 = .ok (.istore_n 3, 1) := by decide +kernel
theorem dX12_become_32 : decode cX12_become 32 = .ok (.iload_n 3, 1) := by decide +kernel
theorem dX12_become_33 : decode cX12_become 33 = .ok (.iload_n 2, 1) := by decide +kernel
theorem dX12_become_34 : decode cX12_become 34 = .ok (.if_icmp .ne 6, 3) := by decide +kernel
theorem dX12_become_37 : decode cX12_become 37 = .ok (.ldc 158, 2) := by decide +kernel
theorem dX12_become_39 : decode cX12_become 39 = .ok (.ireturn, 1) := by decide +kernel
theorem dX12_become_40 : decode cX12_become 40 = .ok (.aload_n 0, 1) := by decide +kernel
theorem dX12_become_41 : decode cX12_become 41 = .ok (.invokevirtual 167, 3) := by decide +kernel
theorem dX12_become_44 : decode cX12_become 44 = .ok (.aload_n 0, 1) := by decide +kernel
theorem dX12_become_45 : decode cX12_become 45 = .ok (.getfield 19, 3) := by decide +kernel
theorem dX12_become_48 : decode cX12_become 48 = .ok (.iconst 3, 1) := by decide +kernel
theorem dX12_become_49 : decode cX12_become 49 = .ok (.iconst 4, 1) := by decide +kernel
theorem dX12_become_50 : decode cX12_become 50 = .ok (.iload_n 1, 1) := by decide +kernel
theorem dX12_become_51 : decode cX12_become 51 = .ok (.imul, 1) := by decide +kernel
theorem dX12_become_52 : decode cX12_become 52 = .ok (.iadd, 1) := by decide +kernel
theorem dX12_become_53 : decode cX12_become 53 = .ok (.iload_n 2, 1) := by decide +kernel
theorem dX12_become_54 : decode cX12_become 54 = .ok (.iastore, 1) := by decide +kernel
theorem dX12_become_55 : decode cX12_become 55 = .ok (.iload_n 3, 1) := by decide +kernel
theorem dX12_become_56 : decode cX12_become 56 = .ok (.ireturn, 1) := by decide +kernel
theorem dX12_law_0 : decode cX12_law 0 = .ok (.aload_n 0, 1) := by decide +kernel
theorem dX12_law_1 : decode cX12_law 1 = .ok (.invokevirtual 159, 3) := by decide +kernel
theorem dX12_law_4 : decode cX12_law 4 = .ok (.ifCond .ne 6, 3) := by decide +kernel
theorem dX12_law_7 : decode cX12_law 7 = .ok (.ldc 158, 2) := by decide +kernel
theorem dX12_law_9 : decode cX12_law 9 = .ok (.ireturn, 1) := by decide +kernel
theorem dX12_law_10 : decode cX12_law 10 = .ok (.iload_n 1, 1) := by decide +kernel
theorem dX12_law_11 : decode cX12_law 11 = .ok (.i2l, 1) := by decide +kernel
theorem dX12_law_12 : decode cX12_law 12 = .ok (.lconst 0, 1) := by decide +kernel
theorem dX12_law_13 : decode cX12_law 13 = .ok (.lconst 1, 1) := by decide +kernel
theorem dX12_law_14 : decode cX12_law 14 = .ok (.invokestatic 75, 3) := by decide +kernel
theorem dX12_law_17 : decode cX12_law 17 = .ok (.ifCond .eq 25, 3) := by decide +kernel
theorem dX12_law_20 : decode cX12_law 20 = .ok (.iload_n 2, 1) := by decide +kernel
theorem dX12_law_21 : decode cX12_law 21 = .ok (.i2l, 1) := by decide +kernel
theorem dX12_law_22 : decode cX12_law 22 = .ok (.lconst 0, 1) := by decide +kernel
theorem dX12_law_23 : decode cX12_law 23 = .ok (.iload_n 1, 1) := by decide +kernel
theorem dX12_law_24 : decode cX12_law 24 = .ok (.ifCond .ne 9, 3) := by decide +kernel
theorem dX12_law_27 : decode cX12_law 27 = .ok (.ldc2_w 188, 3) := by decide +kernel
theorem dX12_law_30 : decode cX12_law 30 = .ok (.goto 6, 3) := by decide +kernel
theorem dX12_law_33 : decode cX12_law 33 = .ok (.ldc2_w 190, 3) := by decide +kernel
theorem dX12_law_36 : decode cX12_law 36 = .ok (.invokestatic 75, 3) := by decide +kernel
theorem dX12_law_39 : decode cX12_law 39 = .ok (.ifCond .ne 6, 3) := by decide +kernel
theorem dX12_law_42 : decode cX12_law 42 = .ok (.ldc 85, 2) := by decide +kernel
theorem dX12_law_44 : decode cX12_law 44 = .ok (.ireturn, 1) := by decide +kernel
theorem dX12_law_45 : decode cX12_law 45 = .ok (.aload_n 0, 1) := by decide +kernel
theorem dX12_law_46 : decode cX12_law 46 = .ok (.getfield 19, 3) := by decide +kernel
theorem dX12_law_49 : decode cX12_law 49 = .ok (.iconst 1, 1) := by decide +kernel
theorem dX12_law_50 : decode cX12_law 50 = .ok (.iload_n 1, 1) := by decide +kernel
theorem dX12_law_51 : decode cX12_law 51 = .ok (.iadd, 1) := by decide +kernel
theorem dX12_law_52 : decode cX12_law 52 = .ok (.iaload, 1) := by decide +kernel
theorem dX12_law_53 : decode cX12_law 53 = .ok (.istore_n 3, 1) := by decide +kernel
theorem dX12_law_54 : decode cX12_law 54 = .ok (.aload_n 0, 1) := by decide +kernel
theorem dX12_law_55 : decode cX12_law 55 = .ok (.invokevirtual 167, 3) := by decide +kernel
theorem dX12_law_58 : decode cX12_law 58 = .ok (.aload_n 0, 1) := by decide +kernel
theorem dX12_law_59 : decode cX12_law 59 = .ok (.getfield 19, 3) := by decide +kernel
theorem dX12_law_62 : decode cX12_law 62 = .ok (.iconst 1, 1) := by decide +kernel
theorem dX12_law_63 : decode cX12_law 63 = .ok (.iload_n 1, 1) := by decide +kernel
theorem dX12_law_64 : decode cX12_law 64 = .ok (.iadd, 1) := by decide +kernel
theorem dX12_law_65 : decode cX12_law 65 = .ok (.iload_n 2, 1) := by decide +kernel
theorem dX12_law_66 : decode cX12_law 66 = .ok (.iastore, 1) := by decide +kernel
theorem dX12_law_67 : decode cX12_law 67 = .ok (.iload_n 3, 1) := by decide +kernel
theorem dX12_law_68 : decode cX12_law 68 = .ok (.ireturn, 1) := by decide +kernel
theorem dX12_kindOf_0 : decode cX12_kindOf 0 = .ok (.aload_n 0, 1) := by decide +kernel
theorem dX12_kindOf_1 : decode cX12_kindOf 1 = .ok (.iconst 3, 1) := by decide +kernel
theorem dX12_kindOf_2 : decode cX12_kindOf 2 = .ok (.iconst 4, 1) := by decide +kernel
theorem dX12_kindOf_3 : decode cX12_kindOf 3 = .ok (.iload_n 1, 1) := by decide +kernel
theorem dX12_kindOf_4 : decode cX12_kindOf 4 = .ok (.imul, 1) := by decide +kernel
theorem dX12_kindOf_5 : decode cX12_kindOf 5 = .ok (.iadd, 1) := by decide +kernel
theorem dX12_kindOf_6 : decode cX12_kindOf 6 = .ok (.iaload, 1) := by decide +kernel
theorem dX12_kindOf_7 : decode cX12_kindOf 7 = .ok (.ireturn, 1) := by decide +kernel
theorem dX12_awayBy_0 : decode cX12_awayBy 0 = .ok (.aload_n 0, 1) := by decide +kernel
theorem dX12_awayBy_1 : decode cX12_awayBy 1 = .ok (.iconst 3, 1) := by decide +kernel
theorem dX12_awayBy_2 : decode cX12_awayBy 2 = .ok (.iconst 4, 1) := by decide +kernel
theorem dX12_awayBy_3 : decode cX12_awayBy 3 = .ok (.iload_n 1, 1) := by decide +kernel
theorem dX12_awayBy_4 : decode cX12_awayBy 4 = .ok (.imul, 1) := by decide +kernel
theorem dX12_awayBy_5 : decode cX12_awayBy 5 = .ok (.iadd, 1) := by decide +kernel
theorem dX12_awayBy_6 : decode cX12_awayBy 6 = .ok (.iconst 1, 1) := by decide +kernel
theorem dX12_awayBy_7 : decode cX12_awayBy 7 = .ok (.iadd, 1) := by decide +kernel
theorem dX12_awayBy_8 : decode cX12_awayBy 8 = .ok (.iload_n 3, 1) := by decide +kernel
theorem dX12_awayBy_9 : decode cX12_awayBy 9 = .ok (.iadd, 1) := by decide +kernel
theorem dX12_awayBy_10 : decode cX12_awayBy 10 = .ok (.iaload, 1) := by decide +kernel
theorem dX12_awayBy_11 : decode cX12_awayBy 11 = .ok (.aload_n 0, 1) := by decide +kernel
theorem dX12_awayBy_12 : decode cX12_awayBy 12 = .ok (.iconst 3, 1) := by decide +kernel
theorem dX12_awayBy_13 : decode cX12_awayBy 13 = .ok (.iconst 4, 1) := by decide +kernel
theorem dX12_awayBy_14 : decode cX12_awayBy 14 = .ok (.iload_n 2, 1) := by decide +kernel
theorem dX12_awayBy_15 : decode cX12_awayBy 15 = .ok (.imul, 1) := by decide +kernel
theorem dX12_awayBy_16 : decode cX12_awayBy 16 = .ok (.iadd, 1) := by decide +kernel
theorem dX12_awayBy_17 : decode cX12_awayBy 17 = .ok (.iconst 1, 1) := by decide +kernel
theorem dX12_awayBy_18 : decode cX12_awayBy 18 = .ok (.iadd, 1) := by decide +kernel
theorem dX12_awayBy_19 : decode cX12_awayBy 19 = .ok (.iload_n 3, 1) := by decide +kernel
theorem dX12_awayBy_20 : decode cX12_awayBy 20 = .ok (.iadd, 1) := by decide +kernel
theorem dX12_awayBy_21 : decode cX12_awayBy 21 = .ok (.iaload, 1) := by decide +kernel
theorem dX12_awayBy_22 : decode cX12_awayBy 22 = .ok (.isub, 1) := by decide +kernel
theorem dX12_awayBy_23 : decode cX12_awayBy 23 = .ok (.istore 4, 2) := by decide +kernel
theorem dX12_awayBy_25 : decode cX12_awayBy 25 = .ok (.iload 4, 2) := by decide +kernel
theorem dX12_awayBy_27 : decode cX12_awayBy 27 = .ok (.ifCond .ge 9, 3) := by decide +kernel
theorem dX12_awayBy_30 : decode cX12_awayBy 30 = .ok (.iload 4, 2) := by decide +kernel
theorem dX12_awayBy_32 : decode cX12_awayBy 32 = .ok (.ineg, 1) := by decide +kernel
theorem dX12_awayBy_33 : decode cX12_awayBy 33 = .ok (.goto 5, 3) := by decide +kernel
theorem dX12_awayBy_36 : decode cX12_awayBy 36 = .ok (.iload 4, 2) := by decide +kernel
theorem dX12_awayBy_38 : decode cX12_awayBy 38 = .ok (.ireturn, 1) := by decide +kernel
theorem dX12_givenBy_0 : decode cX12_givenBy 0 = .ok (.iload_n 1, 1) := by decide +kernel
theorem dX12_givenBy_1 : decode cX12_givenBy 1 = .ok (.iload_n 2, 1) := by decide +kernel
theorem dX12_givenBy_2 : decode cX12_givenBy 2 = .ok (.if_icmp .le 7, 3) := by decide +kernel
theorem dX12_givenBy_5 : decode cX12_givenBy 5 = .ok (.iload_n 1, 1) := by decide +kernel
theorem dX12_givenBy_6 : decode cX12_givenBy 6 = .ok (.goto 4, 3) := by decide +kernel
theorem dX12_givenBy_9 : decode cX12_givenBy 9 = .ok (.iload_n 2, 1) := by decide +kernel
theorem dX12_givenBy_10 : decode cX12_givenBy 10 = .ok (.istore 4, 2) := by decide +kernel
theorem dX12_givenBy_12 : decode cX12_givenBy 12 = .ok (.iload 4, 2) := by decide +kernel
theorem dX12_givenBy_14 : decode cX12_givenBy 14 = .ok (.iload_n 3, 1) := by decide +kernel
theorem dX12_givenBy_15 : decode cX12_givenBy 15 = .ok (.if_icmp .le 8, 3) := by decide +kernel
theorem dX12_givenBy_18 : decode cX12_givenBy 18 = .ok (.iload 4, 2) := by decide +kernel
theorem dX12_givenBy_20 : decode cX12_givenBy 20 = .ok (.goto 4, 3) := by decide +kernel
theorem dX12_givenBy_23 : decode cX12_givenBy 23 = .ok (.iload_n 3, 1) := by decide +kernel
theorem dX12_givenBy_24 : decode cX12_givenBy 24 = .ok (.istore 4, 2) := by decide +kernel
theorem dX12_givenBy_26 : decode cX12_givenBy 26 = .ok (.iload_n 0, 1) := by decide +kernel
theorem dX12_givenBy_27 : decode cX12_givenBy 27 = .ok (.tableswitch 50 1 4 #[29, 35, 39, 47], 29) := by decide +kernel
theorem dX12_givenBy_56 : decode cX12_givenBy 56 = .ok (.iload_n 1, 1) := by decide +kernel
theorem dX12_givenBy_57 : decode cX12_givenBy 57 = .ok (.iload_n 2, 1) := by decide +kernel
theorem dX12_givenBy_58 : decode cX12_givenBy 58 = .ok (.iadd, 1) := by decide +kernel
theorem dX12_givenBy_59 : decode cX12_givenBy 59 = .ok (.iload_n 3, 1) := by decide +kernel
theorem dX12_givenBy_60 : decode cX12_givenBy 60 = .ok (.iadd, 1) := by decide +kernel
theorem dX12_givenBy_61 : decode cX12_givenBy 61 = .ok (.ireturn, 1) := by decide +kernel
theorem dX12_givenBy_62 : decode cX12_givenBy 62 = .ok (.iload_n 1, 1) := by decide +kernel
theorem dX12_givenBy_63 : decode cX12_givenBy 63 = .ok (.iload_n 2, 1) := by decide +kernel
theorem dX12_givenBy_64 : decode cX12_givenBy 64 = .ok (.iadd, 1) := by decide +kernel
theorem dX12_givenBy_65 : decode cX12_givenBy 65 = .ok (.ireturn, 1) := by decide +kernel
theorem dX12_givenBy_66 : decode cX12_givenBy 66 = .ok (.iload_n 1, 1) := by decide +kernel
theorem dX12_givenBy_67 : decode cX12_givenBy 67 = .ok (.iload_n 2, 1) := by decide +kernel
theorem dX12_givenBy_68 : decode cX12_givenBy 68 = .ok (.iconst 2, 1) := by decide +kernel
theorem dX12_givenBy_69 : decode cX12_givenBy 69 = .ok (.idiv, 1) := by decide +kernel
theorem dX12_givenBy_70 : decode cX12_givenBy 70 = .ok (.iadd, 1) := by decide +kernel
theorem dX12_givenBy_71 : decode cX12_givenBy 71 = .ok (.iload_n 3, 1) := by decide +kernel
theorem dX12_givenBy_72 : decode cX12_givenBy 72 = .ok (.iadd, 1) := by decide +kernel
theorem dX12_givenBy_73 : decode cX12_givenBy 73 = .ok (.ireturn, 1) := by decide +kernel
theorem dX12_givenBy_74 : decode cX12_givenBy 74 = .ok (.iload 4, 2) := by decide +kernel
theorem dX12_givenBy_76 : decode cX12_givenBy 76 = .ok (.ireturn, 1) := by decide +kernel
theorem dX12_givenBy_77 : decode cX12_givenBy 77 = .ok (.iload 4, 2) := by decide +kernel
theorem dX12_givenBy_79 : decode cX12_givenBy 79 = .ok (.iconst 5, 1) := by decide +kernel
theorem dX12_givenBy_80 : decode cX12_givenBy 80 = .ok (.iadd, 1) := by decide +kernel
theorem dX12_givenBy_81 : decode cX12_givenBy 81 = .ok (.ireturn, 1) := by decide +kernel
theorem dX12_farOf_0 : decode cX12_farOf 0 = .ok (.aload_n 0, 1) := by decide +kernel
theorem dX12_farOf_1 : decode cX12_farOf 1 = .ok (.iload_n 1, 1) := by decide +kernel
theorem dX12_farOf_2 : decode cX12_farOf 2 = .ok (.iload_n 2, 1) := by decide +kernel
theorem dX12_farOf_3 : decode cX12_farOf 3 = .ok (.iconst 0, 1) := by decide +kernel
theorem dX12_farOf_4 : decode cX12_farOf 4 = .ok (.invokestatic 192, 3) := by decide +kernel
theorem dX12_farOf_7 : decode cX12_farOf 7 = .ok (.istore_n 3, 1) := by decide +kernel
theorem dX12_farOf_8 : decode cX12_farOf 8 = .ok (.aload_n 0, 1) := by decide +kernel
theorem dX12_farOf_9 : decode cX12_farOf 9 = .ok (.iload_n 1, 1) := by decide +kernel
theorem dX12_farOf_10 : decode cX12_farOf 10 = .ok (.iload_n 2, 1) := by decide +kernel
theorem dX12_farOf_11 : decode cX12_farOf 11 = .ok (.iconst 1, 1) := by decide +kernel
theorem dX12_farOf_12 : decode cX12_farOf 12 = .ok (.invokestatic 192, 3) := by decide +kernel
theorem dX12_farOf_15 : decode cX12_farOf 15 = .ok (.istore 4, 2) := by decide +kernel
theorem dX12_farOf_17 : decode cX12_farOf 17 = .ok (.aload_n 0, 1) := by decide +kernel
theorem dX12_farOf_18 : decode cX12_farOf 18 = .ok (.iload_n 1, 1) := by decide +kernel
theorem dX12_farOf_19 : decode cX12_farOf 19 = .ok (.iload_n 2, 1) := by decide +kernel
theorem dX12_farOf_20 : decode cX12_farOf 20 = .ok (.iconst 2, 1) := by decide +kernel
theorem dX12_farOf_21 : decode cX12_farOf 21 = .ok (.invokestatic 192, 3) := by decide +kernel
theorem dX12_farOf_24 : decode cX12_farOf 24 = .ok (.istore 5, 2) := by decide +kernel
theorem dX12_farOf_26 : decode cX12_farOf 26 = .ok (.aload_n 0, 1) := by decide +kernel
theorem dX12_farOf_27 : decode cX12_farOf 27 = .ok (.iload_n 1, 1) := by decide +kernel
theorem dX12_farOf_28 : decode cX12_farOf 28 = .ok (.invokestatic 184, 3) := by decide +kernel
theorem dX12_farOf_31 : decode cX12_farOf 31 = .ok (.iload_n 3, 1) := by decide +kernel
theorem dX12_farOf_32 : decode cX12_farOf 32 = .ok (.iload 4, 2) := by decide +kernel
theorem dX12_farOf_34 : decode cX12_farOf 34 = .ok (.iload 5, 2) := by decide +kernel
theorem dX12_farOf_36 : decode cX12_farOf 36 = .ok (.invokestatic 196, 3) := by decide +kernel
theorem dX12_farOf_39 : decode cX12_farOf 39 = .ok (.istore 6, 2) := by decide +kernel
theorem dX12_farOf_41 : decode cX12_farOf 41 = .ok (.aload_n 0, 1) := by decide +kernel
theorem dX12_farOf_42 : decode cX12_farOf 42 = .ok (.iload_n 2, 1) := by decide +kernel
theorem dX12_farOf_43 : decode cX12_farOf 43 = .ok (.invokestatic 184, 3) := by decide +kernel
theorem dX12_farOf_46 : decode cX12_farOf 46 = .ok (.iload_n 3, 1) := by decide +kernel
theorem dX12_farOf_47 : decode cX12_farOf 47 = .ok (.iload 4, 2) := by decide +kernel
theorem dX12_farOf_49 : decode cX12_farOf 49 = .ok (.iload 5, 2) := by decide +kernel
theorem dX12_farOf_51 : decode cX12_farOf 51 = .ok (.invokestatic 196, 3) := by decide +kernel
theorem dX12_farOf_54 : decode cX12_farOf 54 = .ok (.istore 7, 2) := by decide +kernel
theorem dX12_farOf_56 : decode cX12_farOf 56 = .ok (.iload 6, 2) := by decide +kernel
theorem dX12_farOf_58 : decode cX12_farOf 58 = .ok (.iload 7, 2) := by decide +kernel
theorem dX12_farOf_60 : decode cX12_farOf 60 = .ok (.if_icmp .ge 8, 3) := by decide +kernel
theorem dX12_farOf_63 : decode cX12_farOf 63 = .ok (.iload 6, 2) := by decide +kernel
theorem dX12_farOf_65 : decode cX12_farOf 65 = .ok (.goto 5, 3) := by decide +kernel
theorem dX12_farOf_68 : decode cX12_farOf 68 = .ok (.iload 7, 2) := by decide +kernel
theorem dX12_farOf_70 : decode cX12_farOf 70 = .ok (.ireturn, 1) := by decide +kernel
theorem dX12_spreadOf_0 : decode cX12_spreadOf 0 = .ok (.iconst 0, 1) := by decide +kernel
theorem dX12_spreadOf_1 : decode cX12_spreadOf 1 = .ok (.istore_n 2, 1) := by decide +kernel
theorem dX12_spreadOf_2 : decode cX12_spreadOf 2 = .ok (.iconst 0, 1) := by decide +kernel
theorem dX12_spreadOf_3 : decode cX12_spreadOf 3 = .ok (.istore_n 3, 1) := by decide +kernel
theorem dX12_spreadOf_4 : decode cX12_spreadOf 4 = .ok (.iload_n 3, 1) := by decide +kernel
theorem dX12_spreadOf_5 : decode cX12_spreadOf 5 = .ok (.aload_n 0, 1) := by decide +kernel
theorem dX12_spreadOf_6 : decode cX12_spreadOf 6 = .ok (.iconst 0, 1) := by decide +kernel
theorem dX12_spreadOf_7 : decode cX12_spreadOf 7 = .ok (.iaload, 1) := by decide +kernel
theorem dX12_spreadOf_8 : decode cX12_spreadOf 8 = .ok (.if_icmp .ge 71, 3) := by decide +kernel
theorem dX12_spreadOf_11 : decode cX12_spreadOf 11 = .ok (.iload_n 3, 1) := by decide +kernel
theorem dX12_spreadOf_12 : decode cX12_spreadOf 12 = .ok (.iconst 1, 1) := by decide +kernel
theorem dX12_spreadOf_13 : decode cX12_spreadOf 13 = .ok (.iadd, 1) := by decide +kernel
theorem dX12_spreadOf_14 : decode cX12_spreadOf 14 = .ok (.istore 4, 2) := by decide +kernel
theorem dX12_spreadOf_16 : decode cX12_spreadOf 16 = .ok (.iload 4, 2) := by decide +kernel
theorem dX12_spreadOf_18 : decode cX12_spreadOf 18 = .ok (.aload_n 0, 1) := by decide +kernel
theorem dX12_spreadOf_19 : decode cX12_spreadOf 19 = .ok (.iconst 0, 1) := by decide +kernel
theorem dX12_spreadOf_20 : decode cX12_spreadOf 20 = .ok (.iaload, 1) := by decide +kernel
theorem dX12_spreadOf_21 : decode cX12_spreadOf 21 = .ok (.if_icmp .ge 52, 3) := by decide +kernel
theorem dX12_spreadOf_24 : decode cX12_spreadOf 24 = .ok (.iload_n 1, 1) := by decide +kernel
theorem dX12_spreadOf_25 : decode cX12_spreadOf 25 = .ok (.iload_n 3, 1) := by decide +kernel
theorem dX12_spreadOf_26 : decode cX12_spreadOf 26 = .ok (.invokestatic 90, 3) := by decide +kernel
theorem dX12_spreadOf_29 : decode cX12_spreadOf 29 = .ok (.ifCond .eq 44, 3) := by decide +kernel
theorem dX12_spreadOf_32 : decode cX12_spreadOf 32 = .ok (.iload_n 1, 1) := by decide +kernel
theorem dX12_spreadOf_33 : decode cX12_spreadOf 33 = .ok (.iload 4, 2) := by decide +kernel
theorem dX12_spreadOf_35 : decode cX12_spreadOf 35 = .ok (.invokestatic 90, 3) := by decide +kernel
theorem dX12_spreadOf_38 : decode cX12_spreadOf 38 = .ok (.ifCond .eq 13, 3) := by decide +kernel
theorem dX12_spreadOf_41 : decode cX12_spreadOf 41 = .ok (.aload_n 0, 1) := by decide +kernel
theorem dX12_spreadOf_42 : decode cX12_spreadOf 42 = .ok (.iload_n 3, 1) := by decide +kernel
theorem dX12_spreadOf_43 : decode cX12_spreadOf 43 = .ok (.iload 4, 2) := by decide +kernel
theorem dX12_spreadOf_45 : decode cX12_spreadOf 45 = .ok (.invokestatic 200, 3) := by decide +kernel
theorem dX12_spreadOf_48 : decode cX12_spreadOf 48 = .ok (.goto 4, 3) := by decide +kernel
theorem dX12_spreadOf_51 : decode cX12_spreadOf 51 = .ok (.iconst 0, 1) := by decide +kernel
theorem dX12_spreadOf_52 : decode cX12_spreadOf 52 = .ok (.istore 5, 2) := by decide +kernel
theorem dX12_spreadOf_54 : decode cX12_spreadOf 54 = .ok (.iload 5, 2) := by decide +kernel
theorem dX12_spreadOf_56 : decode cX12_spreadOf 56 = .ok (.iload_n 2, 1) := by decide +kernel
theorem dX12_spreadOf_57 : decode cX12_spreadOf 57 = .ok (.if_icmp .le 8, 3) := by decide +kernel
theorem dX12_spreadOf_60 : decode cX12_spreadOf 60 = .ok (.iload 5, 2) := by decide +kernel
theorem dX12_spreadOf_62 : decode cX12_spreadOf 62 = .ok (.goto 4, 3) := by decide +kernel
theorem dX12_spreadOf_65 : decode cX12_spreadOf 65 = .ok (.iload_n 2, 1) := by decide +kernel
theorem dX12_spreadOf_66 : decode cX12_spreadOf 66 = .ok (.istore_n 2, 1) := by decide +kernel
theorem dX12_spreadOf_67 : decode cX12_spreadOf 67 = .ok (.iinc 4 1, 3) := by decide +kernel
theorem dX12_spreadOf_70 : decode cX12_spreadOf 70 = .ok (.goto (-54), 3) := by decide +kernel
theorem dX12_spreadOf_73 : decode cX12_spreadOf 73 = .ok (.iinc 3 1, 3) := by decide +kernel
theorem dX12_spreadOf_76 : decode cX12_spreadOf 76 = .ok (.goto (-72), 3) := by decide +kernel
theorem dX12_spreadOf_79 : decode cX12_spreadOf 79 = .ok (.iload_n 2, 1) := by decide +kernel
theorem dX12_spreadOf_80 : decode cX12_spreadOf 80 = .ok (.ireturn, 1) := by decide +kernel
theorem dX12_apart_0 : decode cX12_apart 0 = .ok (.aload_n 0, 1) := by decide +kernel
theorem dX12_apart_1 : decode cX12_apart 1 = .ok (.iload_n 1, 1) := by decide +kernel
theorem dX12_apart_2 : decode cX12_apart 2 = .ok (.invokevirtual 178, 3) := by decide +kernel
theorem dX12_apart_5 : decode cX12_apart 5 = .ok (.ifCond .eq 28, 3) := by decide +kernel
theorem dX12_apart_8 : decode cX12_apart 8 = .ok (.aload_n 0, 1) := by decide +kernel
theorem dX12_apart_9 : decode cX12_apart 9 = .ok (.iload_n 2, 1) := by decide +kernel
theorem dX12_apart_10 : decode cX12_apart 10 = .ok (.invokevirtual 178, 3) := by decide +kernel
theorem dX12_apart_13 : decode cX12_apart 13 = .ok (.ifCond .eq 20, 3) := by decide +kernel
theorem dX12_apart_16 : decode cX12_apart 16 = .ok (.iload_n 1, 1) := by decide +kernel
theorem dX12_apart_17 : decode cX12_apart 17 = .ok (.iload_n 2, 1) := by decide +kernel
theorem dX12_apart_18 : decode cX12_apart 18 = .ok (.if_icmp .eq 15, 3) := by decide +kernel
theorem dX12_apart_21 : decode cX12_apart 21 = .ok (.aload_n 0, 1) := by decide +kernel
theorem dX12_apart_22 : decode cX12_apart 22 = .ok (.getfield 19, 3) := by decide +kernel
theorem dX12_apart_25 : decode cX12_apart 25 = .ok (.iload_n 1, 1) := by decide +kernel
theorem dX12_apart_26 : decode cX12_apart 26 = .ok (.iload_n 2, 1) := by decide +kernel
theorem dX12_apart_27 : decode cX12_apart 27 = .ok (.invokestatic 200, 3) := by decide +kernel
theorem dX12_apart_30 : decode cX12_apart 30 = .ok (.goto 5, 3) := by decide +kernel
theorem dX12_apart_33 : decode cX12_apart 33 = .ok (.ldc 85, 2) := by decide +kernel
theorem dX12_apart_35 : decode cX12_apart 35 = .ok (.ireturn, 1) := by decide +kernel
theorem dX12_spread_0 : decode cX12_spread 0 = .ok (.aload_n 0, 1) := by decide +kernel
theorem dX12_spread_1 : decode cX12_spread 1 = .ok (.invokevirtual 159, 3) := by decide +kernel
theorem dX12_spread_4 : decode cX12_spread 4 = .ok (.ifCond .ne 6, 3) := by decide +kernel
theorem dX12_spread_7 : decode cX12_spread 7 = .ok (.ldc 158, 2) := by decide +kernel
theorem dX12_spread_9 : decode cX12_spread 9 = .ok (.ireturn, 1) := by decide +kernel
theorem dX12_spread_10 : decode cX12_spread 10 = .ok (.iload_n 1, 1) := by decide +kernel
theorem dX12_spread_11 : decode cX12_spread 11 = .ok (.i2l, 1) := by decide +kernel
theorem dX12_spread_12 : decode cX12_spread 12 = .ok (.lconst 1, 1) := by decide +kernel
theorem dX12_spread_13 : decode cX12_spread 13 = .ok (.aload_n 0, 1) := by decide +kernel
theorem dX12_spread_14 : decode cX12_spread 14 = .ok (.getfield 19, 3) := by decide +kernel
theorem dX12_spread_17 : decode cX12_spread 17 = .ok (.invokestatic 204, 3) := by decide +kernel
theorem dX12_spread_20 : decode cX12_spread 20 = .ok (.i2l, 1) := by decide +kernel
theorem dX12_spread_21 : decode cX12_spread 21 = .ok (.invokestatic 75, 3) := by decide +kernel
theorem dX12_spread_24 : decode cX12_spread 24 = .ok (.ifCond .eq 14, 3) := by decide +kernel
theorem dX12_spread_27 : decode cX12_spread 27 = .ok (.aload_n 0, 1) := by decide +kernel
theorem dX12_spread_28 : decode cX12_spread 28 = .ok (.getfield 19, 3) := by decide +kernel
theorem dX12_spread_31 : decode cX12_spread 31 = .ok (.iload_n 1, 1) := by decide +kernel
theorem dX12_spread_32 : decode cX12_spread 32 = .ok (.invokestatic 208, 3) := by decide +kernel
theorem dX12_spread_35 : decode cX12_spread 35 = .ok (.goto 5, 3) := by decide +kernel
theorem dX12_spread_38 : decode cX12_spread 38 = .ok (.ldc 85, 2) := by decide +kernel
theorem dX12_spread_40 : decode cX12_spread 40 = .ok (.ireturn, 1) := by decide +kernel
theorem dX12_nextJoin_0 : decode cX12_nextJoin 0 = .ok (.ldc 112, 2) := by decide +kernel
theorem dX12_nextJoin_2 : decode cX12_nextJoin 2 = .ok (.istore_n 1, 1) := by decide +kernel
theorem dX12_nextJoin_3 : decode cX12_nextJoin 3 = .ok (.aload_n 0, 1) := by decide +kernel
theorem dX12_nextJoin_4 : decode cX12_nextJoin 4 = .ok (.getfield 19, 3) := by decide +kernel
theorem dX12_nextJoin_7 : decode cX12_nextJoin 7 = .ok (.iconst 1, 1) := by decide +kernel
theorem dX12_nextJoin_8 : decode cX12_nextJoin 8 = .ok (.iaload, 1) := by decide +kernel
theorem dX12_nextJoin_9 : decode cX12_nextJoin 9 = .ok (.iconst 1, 1) := by decide +kernel
theorem dX12_nextJoin_10 : decode cX12_nextJoin 10 = .ok (.iadd, 1) := by decide +kernel
theorem dX12_nextJoin_11 : decode cX12_nextJoin 11 = .ok (.istore_n 2, 1) := by decide +kernel
theorem dX12_nextJoin_12 : decode cX12_nextJoin 12 = .ok (.iconst 0, 1) := by decide +kernel
theorem dX12_nextJoin_13 : decode cX12_nextJoin 13 = .ok (.istore_n 3, 1) := by decide +kernel
theorem dX12_nextJoin_14 : decode cX12_nextJoin 14 = .ok (.iload_n 3, 1) := by decide +kernel
theorem dX12_nextJoin_15 : decode cX12_nextJoin 15 = .ok (.aload_n 0, 1) := by decide +kernel
theorem dX12_nextJoin_16 : decode cX12_nextJoin 16 = .ok (.getfield 19, 3) := by decide +kernel
theorem dX12_nextJoin_19 : decode cX12_nextJoin 19 = .ok (.iconst 0, 1) := by decide +kernel
theorem dX12_nextJoin_20 : decode cX12_nextJoin 20 = .ok (.iaload, 1) := by decide +kernel
theorem dX12_nextJoin_21 : decode cX12_nextJoin 21 = .ok (.if_icmp .ge 94, 3) := by decide +kernel
theorem dX12_nextJoin_24 : decode cX12_nextJoin 24 = .ok (.iload_n 3, 1) := by decide +kernel
theorem dX12_nextJoin_25 : decode cX12_nextJoin 25 = .ok (.iconst 1, 1) := by decide +kernel
theorem dX12_nextJoin_26 : decode cX12_nextJoin 26 = .ok (.iadd, 1) := by decide +kernel
theorem dX12_nextJoin_27 : decode cX12_nextJoin 27 = .ok (.istore 4, 2) := by decide +kernel
theorem dX12_nextJoin_29 : decode cX12_nextJoin 29 = .ok (.iload 4, 2) := by decide +kernel
theorem dX12_nextJoin_31 : decode cX12_nextJoin 31 = .ok (.aload_n 0, 1) := by decide +kernel
theorem dX12_nextJoin_32 : decode cX12_nextJoin 32 = .ok (.getfield 19, 3) := by decide +kernel
theorem dX12_nextJoin_35 : decode cX12_nextJoin 35 = .ok (.iconst 0, 1) := by decide +kernel
theorem dX12_nextJoin_36 : decode cX12_nextJoin 36 = .ok (.iaload, 1) := by decide +kernel
theorem dX12_nextJoin_37 : decode cX12_nextJoin 37 = .ok (.if_icmp .ge 72, 3) := by decide +kernel
theorem dX12_nextJoin_40 : decode cX12_nextJoin 40 = .ok (.aload_n 0, 1) := by decide +kernel
theorem dX12_nextJoin_41 : decode cX12_nextJoin 41 = .ok (.getfield 34, 3) := by decide +kernel
theorem dX12_nextJoin_44 : decode cX12_nextJoin 44 = .ok (.iload_n 3, 1) := by decide +kernel
theorem dX12_nextJoin_45 : decode cX12_nextJoin 45 = .ok (.iaload, 1) := by decide +kernel
theorem dX12_nextJoin_46 : decode cX12_nextJoin 46 = .ok (.ifCond .le 37, 3) := by decide +kernel
theorem dX12_nextJoin_49 : decode cX12_nextJoin 49 = .ok (.aload_n 0, 1) := by decide +kernel
theorem dX12_nextJoin_50 : decode cX12_nextJoin 50 = .ok (.getfield 34, 3) := by decide +kernel
theorem dX12_nextJoin_53 : decode cX12_nextJoin 53 = .ok (.iload 4, 2) := by decide +kernel
theorem dX12_nextJoin_55 : decode cX12_nextJoin 55 = .ok (.iaload, 1) := by decide +kernel
theorem dX12_nextJoin_56 : decode cX12_nextJoin 56 = .ok (.ifCond .le 27, 3) := by decide +kernel
theorem dX12_nextJoin_59 : decode cX12_nextJoin 59 = .ok (.aload_n 0, 1) := by decide +kernel
theorem dX12_nextJoin_60 : decode cX12_nextJoin 60 = .ok (.getfield 19, 3) := by decide +kernel
theorem dX12_nextJoin_63 : decode cX12_nextJoin 63 = .ok (.aload_n 0, 1) := by decide +kernel
theorem dX12_nextJoin_64 : decode cX12_nextJoin 64 = .ok (.getfield 34, 3) := by decide +kernel
theorem dX12_nextJoin_67 : decode cX12_nextJoin 67 = .ok (.iload_n 3, 1) := by decide +kernel
theorem dX12_nextJoin_68 : decode cX12_nextJoin 68 = .ok (.iaload, 1) := by decide +kernel
theorem dX12_nextJoin_69 : decode cX12_nextJoin 69 = .ok (.aload_n 0, 1) := by decide +kernel
theorem dX12_nextJoin_70 : decode cX12_nextJoin 70 = .ok (.getfield 34, 3) := by decide +kernel
theorem dX12_nextJoin_73 : decode cX12_nextJoin 73 = .ok (.iload 4, 2) := by decide +kernel
theorem dX12_nextJoin_75 : decode cX12_nextJoin 75 = .ok (.iaload, 1) := by decide +kernel
theorem dX12_nextJoin_76 : decode cX12_nextJoin 76 = .ok (.ior, 1) := by decide +kernel
theorem dX12_nextJoin_77 : decode cX12_nextJoin 77 = .ok (.invokestatic 208, 3) := by decide +kernel
theorem dX12_nextJoin_80 : decode cX12_nextJoin 80 = .ok (.goto 4, 3) := by decide +kernel
theorem dX12_nextJoin_83 : decode cX12_nextJoin 83 = .ok (.iload_n 2, 1) := by decide +kernel
theorem dX12_nextJoin_84 : decode cX12_nextJoin 84 = .ok (.istore 5, 2) := by decide +kernel
theorem dX12_nextJoin_86 : decode cX12_nextJoin 86 = .ok (.iload 5, 2) := by decide +kernel
theorem dX12_nextJoin_88 : decode cX12_nextJoin 88 = .ok (.iload_n 2, 1) := by decide +kernel
theorem dX12_nextJoin_89 : decode cX12_nextJoin 89 = .ok (.if_icmp .ge 14, 3) := by decide +kernel
theorem dX12_nextJoin_92 : decode cX12_nextJoin 92 = .ok (.iload 5, 2) := by decide +kernel
theorem dX12_nextJoin_94 : decode cX12_nextJoin 94 = .ok (.istore_n 2, 1) := by decide +kernel
theorem dX12_nextJoin_95 : decode cX12_nextJoin 95 = .ok (.bipush 10, 2) := by decide +kernel
theorem dX12_nextJoin_97 : decode cX12_nextJoin 97 = .ok (.iload_n 3, 1) := by decide +kernel
theorem dX12_nextJoin_98 : decode cX12_nextJoin 98 = .ok (.imul, 1) := by decide +kernel
theorem dX12_nextJoin_99 : decode cX12_nextJoin 99 = .ok (.iload 4, 2) := by decide +kernel
theorem dX12_nextJoin_101 : decode cX12_nextJoin 101 = .ok (.iadd, 1) := by decide +kernel
theorem dX12_nextJoin_102 : decode cX12_nextJoin 102 = .ok (.istore_n 1, 1) := by decide +kernel
theorem dX12_nextJoin_103 : decode cX12_nextJoin 103 = .ok (.iinc 4 1, 3) := by decide +kernel
theorem dX12_nextJoin_106 : decode cX12_nextJoin 106 = .ok (.goto (-77), 3) := by decide +kernel
theorem dX12_nextJoin_109 : decode cX12_nextJoin 109 = .ok (.iinc 3 1, 3) := by decide +kernel
theorem dX12_nextJoin_112 : decode cX12_nextJoin 112 = .ok (.goto (-98), 3) := by decide +kernel
theorem dX12_nextJoin_115 : decode cX12_nextJoin 115 = .ok (.iload_n 1, 1) := by decide +kernel
theorem dX12_nextJoin_116 : decode cX12_nextJoin 116 = .ok (.ireturn, 1) := by decide +kernel
theorem dX12_layGroups_0 : decode cX12_layGroups 0 = .ok (.iconst 0, 1) := by decide +kernel
theorem dX12_layGroups_1 : decode cX12_layGroups 1 = .ok (.istore_n 1, 1) := by decide +kernel
theorem dX12_layGroups_2 : decode cX12_layGroups 2 = .ok (.iload_n 1, 1) := by decide +kernel
theorem dX12_layGroups_3 : decode cX12_layGroups 3 = .ok (.bipush 10, 2) := by decide +kernel
theorem dX12_layGroups_5 : decode cX12_layGroups 5 = .ok (.if_icmp .ge 32, 3) := by decide +kernel
theorem dX12_layGroups_8 : decode cX12_layGroups 8 = .ok (.aload_n 0, 1) := by decide +kernel
theorem dX12_layGroups_9 : decode cX12_layGroups 9 = .ok (.getfield 34, 3) := by decide +kernel
theorem dX12_layGroups_12 : decode cX12_layGroups 12 = .ok (.iload_n 1, 1) := by decide +kernel
theorem dX12_layGroups_13 : decode cX12_layGroups 13 = .ok (.iload_n 1, 1) := by decide +kernel
theorem dX12_layGroups_14 : decode cX12_layGroups 14 = .ok (.aload_n 0, 1) := by decide +kernel
theorem dX12_layGroups_15 : decode cX12_layGroups 15 = .ok (.getfield 19, 3) := by decide +kernel
theorem dX12_layGroups_18 : decode cX12_layGroups 18 = .ok (.iconst 0, 1) := by decide +kernel
theorem dX12_layGroups_19 : decode cX12_layGroups 19 = .ok (.iaload, 1) := by decide +kernel
theorem dX12_layGroups_20 : decode cX12_layGroups 20 = .ok (.if_icmp .ge 9, 3) := by decide +kernel
theorem dX12_layGroups_23 : decode cX12_layGroups 23 = .ok (.iconst 1, 1) := by decide +kernel
theorem dX12_layGroups_24 : decode cX12_layGroups 24 = .ok (.iload_n 1, 1) := by decide +kernel
theorem dX12_layGroups_25 : decode cX12_layGroups 25 = .ok (.ishl, 1) := by decide +kernel
theorem dX12_layGroups_26 : decode cX12_layGroups 26 = .ok (.goto 4, 3) := by decide +kernel
theorem dX12_layGroups_29 : decode cX12_layGroups 29 = .ok (.iconst 0, 1) := by decide +kernel
theorem dX12_layGroups_30 : decode cX12_layGroups 30 = .ok (.iastore, 1) := by decide +kernel
theorem dX12_layGroups_31 : decode cX12_layGroups 31 = .ok (.iinc 1 1, 3) := by decide +kernel
theorem dX12_layGroups_34 : decode cX12_layGroups 34 = .ok (.goto (-32), 3) := by decide +kernel
theorem dX12_layGroups_37 : decode cX12_layGroups 37 = .ok (.aload_n 0, 1) := by decide +kernel
theorem dX12_layGroups_38 : decode cX12_layGroups 38 = .ok (.getfield 19, 3) := by decide +kernel
theorem dX12_layGroups_41 : decode cX12_layGroups 41 = .ok (.iconst 0, 1) := by decide +kernel
theorem dX12_layGroups_42 : decode cX12_layGroups 42 = .ok (.iaload, 1) := by decide +kernel
theorem dX12_layGroups_43 : decode cX12_layGroups 43 = .ok (.istore_n 1, 1) := by decide +kernel
theorem dX12_layGroups_44 : decode cX12_layGroups 44 = .ok (.aload_n 0, 1) := by decide +kernel
theorem dX12_layGroups_45 : decode cX12_layGroups 45 = .ok (.invokevirtual 211, 3) := by decide +kernel
theorem dX12_layGroups_48 : decode cX12_layGroups 48 = .ok (.istore_n 2, 1) := by decide +kernel
theorem dX12_layGroups_49 : decode cX12_layGroups 49 = .ok (.iload_n 2, 1) := by decide +kernel
theorem dX12_layGroups_50 : decode cX12_layGroups 50 = .ok (.ldc 112, 2) := by decide +kernel
theorem dX12_layGroups_52 : decode cX12_layGroups 52 = .ok (.if_icmp .eq 50, 3) := by decide +kernel
theorem dX12_layGroups_55 : decode cX12_layGroups 55 = .ok (.iload_n 1, 1) := by decide +kernel
theorem dX12_layGroups_56 : decode cX12_layGroups 56 = .ok (.iconst 1, 1) := by decide +kernel
theorem dX12_layGroups_57 : decode cX12_layGroups 57 = .ok (.if_icmp .le 45, 3) := by decide +kernel
theorem dX12_layGroups_60 : decode cX12_layGroups 60 = .ok (.aload_n 0, 1) := by decide +kernel
theorem dX12_layGroups_61 : decode cX12_layGroups 61 = .ok (.getfield 34, 3) := by decide +kernel
theorem dX12_layGroups_64 : decode cX12_layGroups 64 = .ok (.iload_n 2, 1) := by decide +kernel
theorem dX12_layGroups_65 : decode cX12_layGroups 65 = .ok (.bipush 10, 2) := by decide +kernel
theorem dX12_layGroups_67 : decode cX12_layGroups 67 = .ok (.idiv, 1) := by decide +kernel
theorem dX12_layGroups_68 : decode cX12_layGroups 68 = .ok (.dup2, 1) := by decide +kernel
theorem dX12_layGroups_69 : decode cX12_layGroups 69 = .ok (.iaload, 1) := by decide +kernel
theorem dX12_layGroups_70 : decode cX12_layGroups 70 = .ok (.aload_n 0, 1) := by decide +kernel
theorem dX12_layGroups_71 : decode cX12_layGroups 71 = .ok (.getfield 34, 3) := by decide +kernel
theorem dX12_layGroups_74 : decode cX12_layGroups 74 = .ok (.iload_n 2, 1) := by decide +kernel
theorem dX12_layGroups_75 : decode cX12_layGroups 75 = .ok (.bipush 10, 2) := by decide +kernel
theorem dX12_layGroups_77 : decode cX12_layGroups 77 = .ok (.irem, 1) := by decide +kernel
theorem dX12_layGroups_78 : decode cX12_layGroups 78 = .ok (.iaload, 1) := by decide +kernel
theorem dX12_layGroups_79 : decode cX12_layGroups 79 = .ok (.ior, 1) := by decide +kernel
theorem dX12_layGroups_80 : decode cX12_layGroups 80 = .ok (.iastore, 1) := by decide +kernel
theorem dX12_layGroups_81 : decode cX12_layGroups 81 = .ok (.aload_n 0, 1) := by decide +kernel
theorem dX12_layGroups_82 : decode cX12_layGroups 82 = .ok (.getfield 34, 3) := by decide +kernel
theorem dX12_layGroups_85 : decode cX12_layGroups 85 = .ok (.iload_n 2, 1) := by decide +kernel
theorem dX12_layGroups_86 : decode cX12_layGroups 86 = .ok (.bipush 10, 2) := by decide +kernel
theorem dX12_layGroups_88 : decode cX12_layGroups 88 = .ok (.irem, 1) := by decide +kernel
theorem dX12_layGroups_89 : decode cX12_layGroups 89 = .ok (.iconst 0, 1) := by decide +kernel
theorem dX12_layGroups_90 : decode cX12_layGroups 90 = .ok (.iastore, 1) := by decide +kernel
theorem dX12_layGroups_91 : decode cX12_layGroups 91 = .ok (.iinc 1 (-1), 3) := by decide +kernel
theorem dX12_layGroups_94 : decode cX12_layGroups 94 = .ok (.aload_n 0, 1) := by decide +kernel
theorem dX12_layGroups_95 : decode cX12_layGroups 95 = .ok (.invokevirtual 211, 3) := by decide +kernel
theorem dX12_layGroups_98 : decode cX12_layGroups 98 = .ok (.istore_n 2, 1) := by decide +kernel
theorem dX12_layGroups_99 : decode cX12_layGroups 99 = .ok (.goto (-50), 3) := by decide +kernel
theorem dX12_layGroups_102 : decode cX12_layGroups 102 = .ok (.iload_n 1, 1) := by decide +kernel
theorem dX12_layGroups_103 : decode cX12_layGroups 103 = .ok (.ireturn, 1) := by decide +kernel
theorem dX12_groupOf_0 : decode cX12_groupOf 0 = .ok (.iconst 0, 1) := by decide +kernel
theorem dX12_groupOf_1 : decode cX12_groupOf 1 = .ok (.istore_n 2, 1) := by decide +kernel
theorem dX12_groupOf_2 : decode cX12_groupOf 2 = .ok (.iconst 0, 1) := by decide +kernel
theorem dX12_groupOf_3 : decode cX12_groupOf 3 = .ok (.istore_n 3, 1) := by decide +kernel
theorem dX12_groupOf_4 : decode cX12_groupOf 4 = .ok (.iload_n 3, 1) := by decide +kernel
theorem dX12_groupOf_5 : decode cX12_groupOf 5 = .ok (.aload_n 0, 1) := by decide +kernel
theorem dX12_groupOf_6 : decode cX12_groupOf 6 = .ok (.getfield 19, 3) := by decide +kernel
theorem dX12_groupOf_9 : decode cX12_groupOf 9 = .ok (.iconst 0, 1) := by decide +kernel
theorem dX12_groupOf_10 : decode cX12_groupOf 10 = .ok (.iaload, 1) := by decide +kernel
theorem dX12_groupOf_11 : decode cX12_groupOf 11 = .ok (.if_icmp .ge 28, 3) := by decide +kernel
theorem dX12_groupOf_14 : decode cX12_groupOf 14 = .ok (.aload_n 0, 1) := by decide +kernel
theorem dX12_groupOf_15 : decode cX12_groupOf 15 = .ok (.getfield 34, 3) := by decide +kernel
theorem dX12_groupOf_18 : decode cX12_groupOf 18 = .ok (.iload_n 3, 1) := by decide +kernel
theorem dX12_groupOf_19 : decode cX12_groupOf 19 = .ok (.iaload, 1) := by decide +kernel
theorem dX12_groupOf_20 : decode cX12_groupOf 20 = .ok (.iload_n 1, 1) := by decide +kernel
theorem dX12_groupOf_21 : decode cX12_groupOf 21 = .ok (.invokestatic 90, 3) := by decide +kernel
theorem dX12_groupOf_24 : decode cX12_groupOf 24 = .ok (.ifCond .eq 7, 3) := by decide +kernel
theorem dX12_groupOf_27 : decode cX12_groupOf 27 = .ok (.iload_n 3, 1) := by decide +kernel
theorem dX12_groupOf_28 : decode cX12_groupOf 28 = .ok (.goto 4, 3) := by decide +kernel
theorem dX12_groupOf_31 : decode cX12_groupOf 31 = .ok (.iload_n 2, 1) := by decide +kernel
theorem dX12_groupOf_32 : decode cX12_groupOf 32 = .ok (.istore_n 2, 1) := by decide +kernel
theorem dX12_groupOf_33 : decode cX12_groupOf 33 = .ok (.iinc 3 1, 3) := by decide +kernel
theorem dX12_groupOf_36 : decode cX12_groupOf 36 = .ok (.goto (-32), 3) := by decide +kernel
theorem dX12_groupOf_39 : decode cX12_groupOf 39 = .ok (.iload_n 2, 1) := by decide +kernel
theorem dX12_groupOf_40 : decode cX12_groupOf 40 = .ok (.ireturn, 1) := by decide +kernel
theorem dX12_layNear_0 : decode cX12_layNear 0 = .ok (.iconst 0, 1) := by decide +kernel
theorem dX12_layNear_1 : decode cX12_layNear 1 = .ok (.istore_n 3, 1) := by decide +kernel
theorem dX12_layNear_2 : decode cX12_layNear 2 = .ok (.iload_n 3, 1) := by decide +kernel
theorem dX12_layNear_3 : decode cX12_layNear 3 = .ok (.bipush 10, 2) := by decide +kernel
theorem dX12_layNear_5 : decode cX12_layNear 5 = .ok (.if_icmp .ge 76, 3) := by decide +kernel
theorem dX12_layNear_8 : decode cX12_layNear 8 = .ok (.aload_n 0, 1) := by decide +kernel
theorem dX12_layNear_9 : decode cX12_layNear 9 = .ok (.getfield 37, 3) := by decide +kernel
theorem dX12_layNear_12 : decode cX12_layNear 12 = .ok (.iload_n 3, 1) := by decide +kernel
theorem dX12_layNear_13 : decode cX12_layNear 13 = .ok (.iconst 1, 1) := by decide +kernel
theorem dX12_layNear_14 : decode cX12_layNear 14 = .ok (.iload_n 3, 1) := by decide +kernel
theorem dX12_layNear_15 : decode cX12_layNear 15 = .ok (.ishl, 1) := by decide +kernel
theorem dX12_layNear_16 : decode cX12_layNear 16 = .ok (.iastore, 1) := by decide +kernel
theorem dX12_layNear_17 : decode cX12_layNear 17 = .ok (.iconst 0, 1) := by decide +kernel
theorem dX12_layNear_18 : decode cX12_layNear 18 = .ok (.istore 4, 2) := by decide +kernel
theorem dX12_layNear_20 : decode cX12_layNear 20 = .ok (.iload 4, 2) := by decide +kernel
theorem dX12_layNear_22 : decode cX12_layNear 22 = .ok (.aload_n 1, 1) := by decide +kernel
theorem dX12_layNear_23 : decode cX12_layNear 23 = .ok (.iconst 0, 1) := by decide +kernel
theorem dX12_layNear_24 : decode cX12_layNear 24 = .ok (.iaload, 1) := by decide +kernel
theorem dX12_layNear_25 : decode cX12_layNear 25 = .ok (.if_icmp .ge 50, 3) := by decide +kernel
theorem dX12_layNear_28 : decode cX12_layNear 28 = .ok (.iload_n 3, 1) := by decide +kernel
theorem dX12_layNear_29 : decode cX12_layNear 29 = .ok (.aload_n 1, 1) := by decide +kernel
theorem dX12_layNear_30 : decode cX12_layNear 30 = .ok (.iconst 0, 1) := by decide +kernel
theorem dX12_layNear_31 : decode cX12_layNear 31 = .ok (.iaload, 1) := by decide +kernel
theorem dX12_layNear_32 : decode cX12_layNear 32 = .ok (.if_icmp .ge 43, 3) := by decide +kernel
theorem dX12_layNear_35 : decode cX12_layNear 35 = .ok (.aload_n 0, 1) := by decide +kernel
theorem dX12_layNear_36 : decode cX12_layNear 36 = .ok (.getfield 37, 3) := by decide +kernel
theorem dX12_layNear_39 : decode cX12_layNear 39 = .ok (.iload_n 3, 1) := by decide +kernel
theorem dX12_layNear_40 : decode cX12_layNear 40 = .ok (.dup2, 1) := by decide +kernel
theorem dX12_layNear_41 : decode cX12_layNear 41 = .ok (.iaload, 1) := by decide +kernel
theorem dX12_layNear_42 : decode cX12_layNear 42 = .ok (.iload 4, 2) := by decide +kernel
theorem dX12_layNear_44 : decode cX12_layNear 44 = .ok (.iload_n 3, 1) := by decide +kernel
theorem dX12_layNear_45 : decode cX12_layNear 45 = .ok (.if_icmp .eq 21, 3) := by decide +kernel
theorem dX12_layNear_48 : decode cX12_layNear 48 = .ok (.aload_n 1, 1) := by decide +kernel
theorem dX12_layNear_49 : decode cX12_layNear 49 = .ok (.iload_n 3, 1) := by decide +kernel
theorem dX12_layNear_50 : decode cX12_layNear 50 = .ok (.iload 4, 2) := by decide +kernel
theorem dX12_layNear_52 : decode cX12_layNear 52 = .ok (.invokestatic 200, 3) := by decide +kernel
theorem dX12_layNear_55 : decode cX12_layNear 55 = .ok (.iload_n 2, 1) := by decide +kernel
theorem dX12_layNear_56 : decode cX12_layNear 56 = .ok (.if_icmp .gt 10, 3) := by decide +kernel
theorem dX12_layNear_59 : decode cX12_layNear 59 = .ok (.iconst 1, 1) := by decide +kernel
theorem dX12_layNear_60 : decode cX12_layNear 60 = .ok (.iload 4, 2) := by decide +kernel
theorem dX12_layNear_62 : decode cX12_layNear 62 = .ok (.ishl, 1) := by decide +kernel
theorem dX12_layNear_63 : decode cX12_layNear 63 = .ok (.goto 4, 3) := by decide +kernel
theorem dX12_layNear_66 : decode cX12_layNear 66 = .ok (.iconst 0, 1) := by decide +kernel
theorem dX12_layNear_67 : decode cX12_layNear 67 = .ok (.ior, 1) := by decide +kernel
theorem dX12_layNear_68 : decode cX12_layNear 68 = .ok (.iastore, 1) := by decide +kernel
theorem dX12_layNear_69 : decode cX12_layNear 69 = .ok (.iinc 4 1, 3) := by decide +kernel
theorem dX12_layNear_72 : decode cX12_layNear 72 = .ok (.goto (-52), 3) := by decide +kernel
theorem dX12_layNear_75 : decode cX12_layNear 75 = .ok (.iinc 3 1, 3) := by decide +kernel
theorem dX12_layNear_78 : decode cX12_layNear 78 = .ok (.goto (-76), 3) := by decide +kernel
theorem dX12_layNear_81 : decode cX12_layNear 81 = .ok (.return_, 1) := by decide +kernel
theorem dX12_isNear_0 : decode cX12_isNear 0 = .ok (.iconst 1, 1) := by decide +kernel
theorem dX12_isNear_1 : decode cX12_isNear 1 = .ok (.istore_n 2, 1) := by decide +kernel
theorem dX12_isNear_2 : decode cX12_isNear 2 = .ok (.iconst 0, 1) := by decide +kernel
theorem dX12_isNear_3 : decode cX12_isNear 3 = .ok (.istore_n 3, 1) := by decide +kernel
theorem dX12_isNear_4 : decode cX12_isNear 4 = .ok (.iload_n 3, 1) := by decide +kernel
theorem dX12_isNear_5 : decode cX12_isNear 5 = .ok (.bipush 10, 2) := by decide +kernel
theorem dX12_isNear_7 : decode cX12_isNear 7 = .ok (.if_icmp .ge 40, 3) := by decide +kernel
theorem dX12_isNear_10 : decode cX12_isNear 10 = .ok (.iload_n 2, 1) := by decide +kernel
theorem dX12_isNear_11 : decode cX12_isNear 11 = .ok (.ifCond .eq 28, 3) := by decide +kernel
theorem dX12_isNear_14 : decode cX12_isNear 14 = .ok (.iload_n 1, 1) := by decide +kernel
theorem dX12_isNear_15 : decode cX12_isNear 15 = .ok (.iload_n 3, 1) := by decide +kernel
theorem dX12_isNear_16 : decode cX12_isNear 16 = .ok (.invokestatic 90, 3) := by decide +kernel
theorem dX12_isNear_19 : decode cX12_isNear 19 = .ok (.ifCond .eq 16, 3) := by decide +kernel
theorem dX12_isNear_22 : decode cX12_isNear 22 = .ok (.iload_n 1, 1) := by decide +kernel
theorem dX12_isNear_23 : decode cX12_isNear 23 = .ok (.aload_n 0, 1) := by decide +kernel
theorem dX12_isNear_24 : decode cX12_isNear 24 = .ok (.getfield 37, 3) := by decide +kernel
theorem dX12_isNear_27 : decode cX12_isNear 27 = .ok (.iload_n 3, 1) := by decide +kernel
theorem dX12_isNear_28 : decode cX12_isNear 28 = .ok (.iaload, 1) := by decide +kernel
theorem dX12_isNear_29 : decode cX12_isNear 29 = .ok (.iconst (-1), 1) := by decide +kernel
theorem dX12_isNear_30 : decode cX12_isNear 30 = .ok (.ixor, 1) := by decide +kernel
theorem dX12_isNear_31 : decode cX12_isNear 31 = .ok (.iand, 1) := by decide +kernel
theorem dX12_isNear_32 : decode cX12_isNear 32 = .ok (.ifCond .ne 7, 3) := by decide +kernel
theorem dX12_isNear_35 : decode cX12_isNear 35 = .ok (.iconst 1, 1) := by decide +kernel
theorem dX12_isNear_36 : decode cX12_isNear 36 = .ok (.goto 4, 3) := by decide +kernel
theorem dX12_isNear_39 : decode cX12_isNear 39 = .ok (.iconst 0, 1) := by decide +kernel
theorem dX12_isNear_40 : decode cX12_isNear 40 = .ok (.istore_n 2, 1) := by decide +kernel
theorem dX12_isNear_41 : decode cX12_isNear 41 = .ok (.iinc 3 1, 3) := by decide +kernel
theorem dX12_isNear_44 : decode cX12_isNear 44 = .ok (.goto (-40), 3) := by decide +kernel
theorem dX12_isNear_47 : decode cX12_isNear 47 = .ok (.iload_n 2, 1) := by decide +kernel
theorem dX12_isNear_48 : decode cX12_isNear 48 = .ok (.ireturn, 1) := by decide +kernel
theorem dX12_oneOf_0 : decode cX12_oneOf 0 = .ok (.iconst 1, 1) := by decide +kernel
theorem dX12_oneOf_1 : decode cX12_oneOf 1 = .ok (.aload_n 0, 1) := by decide +kernel
theorem dX12_oneOf_2 : decode cX12_oneOf 2 = .ok (.getfield 40, 3) := by decide +kernel
theorem dX12_oneOf_5 : decode cX12_oneOf 5 = .ok (.iload_n 1, 1) := by decide +kernel
theorem dX12_oneOf_6 : decode cX12_oneOf 6 = .ok (.iaload, 1) := by decide +kernel
theorem dX12_oneOf_7 : decode cX12_oneOf 7 = .ok (.invokestatic 215, 3) := by decide +kernel
theorem dX12_oneOf_10 : decode cX12_oneOf 10 = .ok (.ishl, 1) := by decide +kernel
theorem dX12_oneOf_11 : decode cX12_oneOf 11 = .ok (.ireturn, 1) := by decide +kernel
theorem dX12_turns_0 : decode cX12_turns 0 = .ok (.aload_n 0, 1) := by decide +kernel
theorem dX12_turns_1 : decode cX12_turns 1 = .ok (.getfield 40, 3) := by decide +kernel
theorem dX12_turns_4 : decode cX12_turns 4 = .ok (.iload_n 1, 1) := by decide +kernel
theorem dX12_turns_5 : decode cX12_turns 5 = .ok (.iaload, 1) := by decide +kernel
theorem dX12_turns_6 : decode cX12_turns 6 = .ok (.aload_n 0, 1) := by decide +kernel
theorem dX12_turns_7 : decode cX12_turns 7 = .ok (.iload_n 1, 1) := by decide +kernel
theorem dX12_turns_8 : decode cX12_turns 8 = .ok (.invokevirtual 218, 3) := by decide +kernel
theorem dX12_turns_11 : decode cX12_turns 11 = .ok (.iconst (-1), 1) := by decide +kernel
theorem dX12_turns_12 : decode cX12_turns 12 = .ok (.ixor, 1) := by decide +kernel
theorem dX12_turns_13 : decode cX12_turns 13 = .ok (.iand, 1) := by decide +kernel
theorem dX12_turns_14 : decode cX12_turns 14 = .ok (.istore_n 3, 1) := by decide +kernel
theorem dX12_turns_15 : decode cX12_turns 15 = .ok (.aload_n 0, 1) := by decide +kernel
theorem dX12_turns_16 : decode cX12_turns 16 = .ok (.getfield 43, 3) := by decide +kernel
theorem dX12_turns_19 : decode cX12_turns 19 = .ok (.iload_n 1, 1) := by decide +kernel
theorem dX12_turns_20 : decode cX12_turns 20 = .ok (.iload_n 1, 1) := by decide +kernel
theorem dX12_turns_21 : decode cX12_turns 21 = .ok (.iload_n 2, 1) := by decide +kernel
theorem dX12_turns_22 : decode cX12_turns 22 = .ok (.iconst 1, 1) := by decide +kernel
theorem dX12_turns_23 : decode cX12_turns 23 = .ok (.isub, 1) := by decide +kernel
theorem dX12_turns_24 : decode cX12_turns 24 = .ok (.if_icmp .eq 12, 3) := by decide +kernel
theorem dX12_turns_27 : decode cX12_turns 27 = .ok (.aload_n 0, 1) := by decide +kernel
theorem dX12_turns_28 : decode cX12_turns 28 = .ok (.getfield 43, 3) := by decide +kernel
theorem dX12_turns_31 : decode cX12_turns 31 = .ok (.iload_n 1, 1) := by decide +kernel
theorem dX12_turns_32 : decode cX12_turns 32 = .ok (.iaload, 1) := by decide +kernel
theorem dX12_turns_33 : decode cX12_turns 33 = .ok (.ifCond .ne 7, 3) := by decide +kernel
theorem dX12_turns_36 : decode cX12_turns 36 = .ok (.iconst (-1), 1) := by decide +kernel
theorem dX12_turns_37 : decode cX12_turns 37 = .ok (.goto 13, 3) := by decide +kernel
theorem dX12_turns_40 : decode cX12_turns 40 = .ok (.aload_n 0, 1) := by decide +kernel
theorem dX12_turns_41 : decode cX12_turns 41 = .ok (.getfield 43, 3) := by decide +kernel
theorem dX12_turns_44 : decode cX12_turns 44 = .ok (.iload_n 1, 1) := by decide +kernel
theorem dX12_turns_45 : decode cX12_turns 45 = .ok (.iaload, 1) := by decide +kernel
theorem dX12_turns_46 : decode cX12_turns 46 = .ok (.iconst 1, 1) := by decide +kernel
theorem dX12_turns_47 : decode cX12_turns 47 = .ok (.isub, 1) := by decide +kernel
theorem dX12_turns_48 : decode cX12_turns 48 = .ok (.iload_n 3, 1) := by decide +kernel
theorem dX12_turns_49 : decode cX12_turns 49 = .ok (.iand, 1) := by decide +kernel
theorem dX12_turns_50 : decode cX12_turns 50 = .ok (.iastore, 1) := by decide +kernel
theorem dX12_turns_51 : decode cX12_turns 51 = .ok (.return_, 1) := by decide +kernel
theorem dX12_opensSet_0 : decode cX12_opensSet 0 = .ok (.aload_n 0, 1) := by decide +kernel
theorem dX12_opensSet_1 : decode cX12_opensSet 1 = .ok (.getfield 40, 3) := by decide +kernel
theorem dX12_opensSet_4 : decode cX12_opensSet 4 = .ok (.iload_n 1, 1) := by decide +kernel
theorem dX12_opensSet_5 : decode cX12_opensSet 5 = .ok (.iload_n 2, 1) := by decide +kernel
theorem dX12_opensSet_6 : decode cX12_opensSet 6 = .ok (.iastore, 1) := by decide +kernel
theorem dX12_opensSet_7 : decode cX12_opensSet 7 = .ok (.aload_n 0, 1) := by decide +kernel
theorem dX12_opensSet_8 : decode cX12_opensSet 8 = .ok (.getfield 43, 3) := by decide +kernel
theorem dX12_opensSet_11 : decode cX12_opensSet 11 = .ok (.iload_n 1, 1) := by decide +kernel
theorem dX12_opensSet_12 : decode cX12_opensSet 12 = .ok (.iload_n 2, 1) := by decide +kernel
theorem dX12_opensSet_13 : decode cX12_opensSet 13 = .ok (.aload_n 0, 1) := by decide +kernel
theorem dX12_opensSet_14 : decode cX12_opensSet 14 = .ok (.iload_n 1, 1) := by decide +kernel
theorem dX12_opensSet_15 : decode cX12_opensSet 15 = .ok (.invokevirtual 218, 3) := by decide +kernel
theorem dX12_opensSet_18 : decode cX12_opensSet 18 = .ok (.iconst (-1), 1) := by decide +kernel
theorem dX12_opensSet_19 : decode cX12_opensSet 19 = .ok (.ixor, 1) := by decide +kernel
theorem dX12_opensSet_20 : decode cX12_opensSet 20 = .ok (.iand, 1) := by decide +kernel
theorem dX12_opensSet_21 : decode cX12_opensSet 21 = .ok (.iastore, 1) := by decide +kernel
theorem dX12_opensSet_22 : decode cX12_opensSet 22 = .ok (.return_, 1) := by decide +kernel
theorem dX12_tells_0 : decode cX12_tells 0 = .ok (.iconst 0, 1) := by decide +kernel
theorem dX12_tells_1 : decode cX12_tells 1 = .ok (.istore_n 3, 1) := by decide +kernel
theorem dX12_tells_2 : decode cX12_tells 2 = .ok (.iconst 0, 1) := by decide +kernel
theorem dX12_tells_3 : decode cX12_tells 3 = .ok (.istore 4, 2) := by decide +kernel
theorem dX12_tells_5 : decode cX12_tells 5 = .ok (.iload 4, 2) := by decide +kernel
theorem dX12_tells_7 : decode cX12_tells 7 = .ok (.bipush 10, 2) := by decide +kernel
theorem dX12_tells_9 : decode cX12_tells 9 = .ok (.if_icmp .ge 101, 3) := by decide +kernel
theorem dX12_tells_12 : decode cX12_tells 12 = .ok (.aload_n 0, 1) := by decide +kernel
theorem dX12_tells_13 : decode cX12_tells 13 = .ok (.getfield 49, 3) := by decide +kernel
theorem dX12_tells_16 : decode cX12_tells 16 = .ok (.iload 4, 2) := by decide +kernel
theorem dX12_tells_18 : decode cX12_tells 18 = .ok (.iconst 0, 1) := by decide +kernel
theorem dX12_tells_19 : decode cX12_tells 19 = .ok (.iastore, 1) := by decide +kernel
theorem dX12_tells_20 : decode cX12_tells 20 = .ok (.iconst 0, 1) := by decide +kernel
theorem dX12_tells_21 : decode cX12_tells 21 = .ok (.istore 5, 2) := by decide +kernel
theorem dX12_tells_23 : decode cX12_tells 23 = .ok (.iload 5, 2) := by decide +kernel
theorem dX12_tells_25 : decode cX12_tells 25 = .ok (.iload_n 1, 1) := by decide +kernel
theorem dX12_tells_26 : decode cX12_tells 26 = .ok (.if_icmp .gt 50, 3) := by decide +kernel
theorem dX12_tells_29 : decode cX12_tells 29 = .ok (.aload_n 0, 1) := by decide +kernel
theorem dX12_tells_30 : decode cX12_tells 30 = .ok (.getfield 49, 3) := by decide +kernel
theorem dX12_tells_33 : decode cX12_tells 33 = .ok (.iload 4, 2) := by decide +kernel
theorem dX12_tells_35 : decode cX12_tells 35 = .ok (.aload_n 0, 1) := by decide +kernel
theorem dX12_tells_36 : decode cX12_tells 36 = .ok (.iload 5, 2) := by decide +kernel
theorem dX12_tells_38 : decode cX12_tells 38 = .ok (.invokevirtual 218, 3) := by decide +kernel
theorem dX12_tells_41 : decode cX12_tells 41 = .ok (.aload_n 0, 1) := by decide +kernel
theorem dX12_tells_42 : decode cX12_tells 42 = .ok (.getfield 43, 3) := by decide +kernel
theorem dX12_tells_45 : decode cX12_tells 45 = .ok (.iload 5, 2) := by decide +kernel
theorem dX12_tells_47 : decode cX12_tells 47 = .ok (.iaload, 1) := by decide +kernel
theorem dX12_tells_48 : decode cX12_tells 48 = .ok (.ior, 1) := by decide +kernel
theorem dX12_tells_49 : decode cX12_tells 49 = .ok (.iload 4, 2) := by decide +kernel
theorem dX12_tells_51 : decode cX12_tells 51 = .ok (.invokestatic 90, 3) := by decide +kernel
theorem dX12_tells_54 : decode cX12_tells 54 = .ok (.ifCond .eq 8, 3) := by decide +kernel
theorem dX12_tells_57 : decode cX12_tells 57 = .ok (.iload 5, 2) := by decide +kernel
theorem dX12_tells_59 : decode cX12_tells 59 = .ok (.goto 10, 3) := by decide +kernel
theorem dX12_tells_62 : decode cX12_tells 62 = .ok (.aload_n 0, 1) := by decide +kernel
theorem dX12_tells_63 : decode cX12_tells 63 = .ok (.getfield 49, 3) := by decide +kernel
theorem dX12_tells_66 : decode cX12_tells 66 = .ok (.iload 4, 2) := by decide +kernel
theorem dX12_tells_68 : decode cX12_tells 68 = .ok (.iaload, 1) := by decide +kernel
theorem dX12_tells_69 : decode cX12_tells 69 = .ok (.iastore, 1) := by decide +kernel
theorem dX12_tells_70 : decode cX12_tells 70 = .ok (.iinc 5 1, 3) := by decide +kernel
theorem dX12_tells_73 : decode cX12_tells 73 = .ok (.goto (-50), 3) := by decide +kernel
theorem dX12_tells_76 : decode cX12_tells 76 = .ok (.iload_n 3, 1) := by decide +kernel
theorem dX12_tells_77 : decode cX12_tells 77 = .ok (.ifCond .ne 25, 3) := by decide +kernel
theorem dX12_tells_80 : decode cX12_tells 80 = .ok (.iload_n 2, 1) := by decide +kernel
theorem dX12_tells_81 : decode cX12_tells 81 = .ok (.ifCond .ne 21, 3) := by decide +kernel
theorem dX12_tells_84 : decode cX12_tells 84 = .ok (.aload_n 0, 1) := by decide +kernel
theorem dX12_tells_85 : decode cX12_tells 85 = .ok (.getfield 49, 3) := by decide +kernel
theorem dX12_tells_88 : decode cX12_tells 88 = .ok (.iload 4, 2) := by decide +kernel
theorem dX12_tells_90 : decode cX12_tells 90 = .ok (.iaload, 1) := by decide +kernel
theorem dX12_tells_91 : decode cX12_tells 91 = .ok (.aload_n 0, 1) := by decide +kernel
theorem dX12_tells_92 : decode cX12_tells 92 = .ok (.getfield 46, 3) := by decide +kernel
theorem dX12_tells_95 : decode cX12_tells 95 = .ok (.iload 4, 2) := by decide +kernel
theorem dX12_tells_97 : decode cX12_tells 97 = .ok (.iaload, 1) := by decide +kernel
theorem dX12_tells_98 : decode cX12_tells 98 = .ok (.isub, 1) := by decide +kernel
theorem dX12_tells_99 : decode cX12_tells 99 = .ok (.goto 4, 3) := by decide +kernel
theorem dX12_tells_102 : decode cX12_tells 102 = .ok (.iload_n 3, 1) := by decide +kernel
theorem dX12_tells_103 : decode cX12_tells 103 = .ok (.istore_n 3, 1) := by decide +kernel
theorem dX12_tells_104 : decode cX12_tells 104 = .ok (.iinc 4 1, 3) := by decide +kernel
theorem dX12_tells_107 : decode cX12_tells 107 = .ok (.goto (-102), 3) := by decide +kernel
theorem dX12_tells_110 : decode cX12_tells 110 = .ok (.iconst 0, 1) := by decide +kernel
theorem dX12_tells_111 : decode cX12_tells 111 = .ok (.istore 4, 2) := by decide +kernel
theorem dX12_tells_113 : decode cX12_tells 113 = .ok (.iload 4, 2) := by decide +kernel
theorem dX12_tells_115 : decode cX12_tells 115 = .ok (.bipush 10, 2) := by decide +kernel
theorem dX12_tells_117 : decode cX12_tells 117 = .ok (.if_icmp .ge 31, 3) := by decide +kernel
theorem dX12_tells_120 : decode cX12_tells 120 = .ok (.iload_n 2, 1) := by decide +kernel
theorem dX12_tells_121 : decode cX12_tells 121 = .ok (.ifCond .ne 7, 3) := by decide +kernel
theorem dX12_tells_124 : decode cX12_tells 124 = .ok (.iload_n 3, 1) := by decide +kernel
theorem dX12_tells_125 : decode cX12_tells 125 = .ok (.ifCond .ge 23, 3) := by decide +kernel
theorem dX12_tells_128 : decode cX12_tells 128 = .ok (.aload_n 0, 1) := by decide +kernel
theorem dX12_tells_129 : decode cX12_tells 129 = .ok (.getfield 46, 3) := by decide +kernel
theorem dX12_tells_132 : decode cX12_tells 132 = .ok (.iload 4, 2) := by decide +kernel
theorem dX12_tells_134 : decode cX12_tells 134 = .ok (.aload_n 0, 1) := by decide +kernel
theorem dX12_tells_135 : decode cX12_tells 135 = .ok (.getfield 49, 3) := by decide +kernel
theorem dX12_tells_138 : decode cX12_tells 138 = .ok (.iload 4, 2) := by decide +kernel
theorem dX12_tells_140 : decode cX12_tells 140 = .ok (.iaload, 1) := by decide +kernel
theorem dX12_tells_141 : decode cX12_tells 141 = .ok (.iastore, 1) := by decide +kernel
theorem dX12_tells_142 : decode cX12_tells 142 = .ok (.iinc 4 1, 3) := by decide +kernel
theorem dX12_tells_145 : decode cX12_tells 145 = .ok (.goto (-32), 3) := by decide +kernel
theorem dX12_tells_148 : decode cX12_tells 148 = .ok (.return_, 1) := by decide +kernel
theorem dX12_parts_0 : decode cX12_parts 0 = .ok (.iconst 0, 1) := by decide +kernel
theorem dX12_parts_1 : decode cX12_parts 1 = .ok (.istore 4, 2) := by decide +kernel
theorem dX12_parts_3 : decode cX12_parts 3 = .ok (.iconst 0, 1) := by decide +kernel
theorem dX12_parts_4 : decode cX12_parts 4 = .ok (.istore 5, 2) := by decide +kernel
theorem dX12_parts_6 : decode cX12_parts 6 = .ok (.aload_n 0, 1) := by decide +kernel
theorem dX12_parts_7 : decode cX12_parts 7 = .ok (.iconst 0, 1) := by decide +kernel
theorem dX12_parts_8 : decode cX12_parts 8 = .ok (.iload_n 1, 1) := by decide +kernel
theorem dX12_parts_9 : decode cX12_parts 9 = .ok (.invokevirtual 221, 3) := by decide +kernel
theorem dX12_parts_12 : decode cX12_parts 12 = .ok (.iconst 0, 1) := by decide +kernel
theorem dX12_parts_13 : decode cX12_parts 13 = .ok (.istore 6, 2) := by decide +kernel
theorem dX12_parts_15 : decode cX12_parts 15 = .ok (.iload 6, 2) := by decide +kernel
theorem dX12_parts_17 : decode cX12_parts 17 = .ok (.ldc 225, 2) := by decide +kernel
theorem dX12_parts_19 : decode cX12_parts 19 = .ok (.if_icmp .ge 172, 3) := by decide +kernel
theorem dX12_parts_22 : decode cX12_parts 22 = .ok (.iload 5, 2) := by decide +kernel
theorem dX12_parts_24 : decode cX12_parts 24 = .ok (.ifCond .lt 167, 3) := by decide +kernel
theorem dX12_parts_27 : decode cX12_parts 27 = .ok (.iload_n 3, 1) := by decide +kernel
theorem dX12_parts_28 : decode cX12_parts 28 = .ok (.ifCond .ne 8, 3) := by decide +kernel
theorem dX12_parts_31 : decode cX12_parts 31 = .ok (.iload 4, 2) := by decide +kernel
theorem dX12_parts_33 : decode cX12_parts 33 = .ok (.ifCond .ne 158, 3) := by decide +kernel
theorem dX12_parts_36 : decode cX12_parts 36 = .ok (.aload_n 0, 1) := by decide +kernel
theorem dX12_parts_37 : decode cX12_parts 37 = .ok (.getfield 43, 3) := by decide +kernel
theorem dX12_parts_40 : decode cX12_parts 40 = .ok (.iload 5, 2) := by decide +kernel
theorem dX12_parts_42 : decode cX12_parts 42 = .ok (.iaload, 1) := by decide +kernel
theorem dX12_parts_43 : decode cX12_parts 43 = .ok (.ifCond .ge 7, 3) := by decide +kernel
theorem dX12_parts_46 : decode cX12_parts 46 = .ok (.iconst 0, 1) := by decide +kernel
theorem dX12_parts_47 : decode cX12_parts 47 = .ok (.goto 17, 3) := by decide +kernel
theorem dX12_parts_50 : decode cX12_parts 50 = .ok (.aload_n 0, 1) := by decide +kernel
theorem dX12_parts_51 : decode cX12_parts 51 = .ok (.iload 5, 2) := by decide +kernel
theorem dX12_parts_53 : decode cX12_parts 53 = .ok (.invokevirtual 218, 3) := by decide +kernel
theorem dX12_parts_56 : decode cX12_parts 56 = .ok (.aload_n 0, 1) := by decide +kernel
theorem dX12_parts_57 : decode cX12_parts 57 = .ok (.getfield 43, 3) := by decide +kernel
theorem dX12_parts_60 : decode cX12_parts 60 = .ok (.iload 5, 2) := by decide +kernel
theorem dX12_parts_62 : decode cX12_parts 62 = .ok (.iaload, 1) := by decide +kernel
theorem dX12_parts_63 : decode cX12_parts 63 = .ok (.ior, 1) := by decide +kernel
theorem dX12_parts_64 : decode cX12_parts 64 = .ok (.istore 7, 2) := by decide +kernel
theorem dX12_parts_66 : decode cX12_parts 66 = .ok (.aload_n 0, 1) := by decide +kernel
theorem dX12_parts_67 : decode cX12_parts 67 = .ok (.getfield 40, 3) := by decide +kernel
theorem dX12_parts_70 : decode cX12_parts 70 = .ok (.iload 5, 2) := by decide +kernel
theorem dX12_parts_72 : decode cX12_parts 72 = .ok (.iaload, 1) := by decide +kernel
theorem dX12_parts_73 : decode cX12_parts 73 = .ok (.iload 7, 2) := by decide +kernel
theorem dX12_parts_75 : decode cX12_parts 75 = .ok (.iconst (-1), 1) := by decide +kernel
theorem dX12_parts_76 : decode cX12_parts 76 = .ok (.ixor, 1) := by decide +kernel
theorem dX12_parts_77 : decode cX12_parts 77 = .ok (.iand, 1) := by decide +kernel
theorem dX12_parts_78 : decode cX12_parts 78 = .ok (.istore 8, 2) := by decide +kernel
theorem dX12_parts_80 : decode cX12_parts 80 = .ok (.aload_n 0, 1) := by decide +kernel
theorem dX12_parts_81 : decode cX12_parts 81 = .ok (.getfield 43, 3) := by decide +kernel
theorem dX12_parts_84 : decode cX12_parts 84 = .ok (.iload 5, 2) := by decide +kernel
theorem dX12_parts_86 : decode cX12_parts 86 = .ok (.iaload, 1) := by decide +kernel
theorem dX12_parts_87 : decode cX12_parts 87 = .ok (.ifCond .ge 21, 3) := by decide +kernel
theorem dX12_parts_90 : decode cX12_parts 90 = .ok (.iinc 5 (-1), 3) := by decide +kernel
theorem dX12_parts_93 : decode cX12_parts 93 = .ok (.iload 5, 2) := by decide +kernel
theorem dX12_parts_95 : decode cX12_parts 95 = .ok (.ifCond .lt 90, 3) := by decide +kernel
theorem dX12_parts_98 : decode cX12_parts 98 = .ok (.aload_n 0, 1) := by decide +kernel
theorem dX12_parts_99 : decode cX12_parts 99 = .ok (.iload 5, 2) := by decide +kernel
theorem dX12_parts_101 : decode cX12_parts 101 = .ok (.iload_n 2, 1) := by decide +kernel
theorem dX12_parts_102 : decode cX12_parts 102 = .ok (.invokevirtual 226, 3) := by decide +kernel
theorem dX12_parts_105 : decode cX12_parts 105 = .ok (.goto 80, 3) := by decide +kernel
theorem dX12_parts_108 : decode cX12_parts 108 = .ok (.aload_n 0, 1) := by decide +kernel
theorem dX12_parts_109 : decode cX12_parts 109 = .ok (.iload 7, 2) := by decide +kernel
theorem dX12_parts_111 : decode cX12_parts 111 = .ok (.invokevirtual 229, 3) := by decide +kernel
theorem dX12_parts_114 : decode cX12_parts 114 = .ok (.ifCond .eq 16, 3) := by decide +kernel
theorem dX12_parts_117 : decode cX12_parts 117 = .ok (.iload 8, 2) := by decide +kernel
theorem dX12_parts_119 : decode cX12_parts 119 = .ok (.ifCond .le 21, 3) := by decide +kernel
theorem dX12_parts_122 : decode cX12_parts 122 = .ok (.iload 5, 2) := by decide +kernel
theorem dX12_parts_124 : decode cX12_parts 124 = .ok (.iconst 1, 1) := by decide +kernel
theorem dX12_parts_125 : decode cX12_parts 125 = .ok (.iadd, 1) := by decide +kernel
theorem dX12_parts_126 : decode cX12_parts 126 = .ok (.iload_n 2, 1) := by decide +kernel
theorem dX12_parts_127 : decode cX12_parts 127 = .ok (.if_icmp .ne 13, 3) := by decide +kernel
theorem dX12_parts_130 : decode cX12_parts 130 = .ok (.aload_n 0, 1) := by decide +kernel
theorem dX12_parts_131 : decode cX12_parts 131 = .ok (.iload 5, 2) := by decide +kernel
theorem dX12_parts_133 : decode cX12_parts 133 = .ok (.iload_n 2, 1) := by decide +kernel
theorem dX12_parts_134 : decode cX12_parts 134 = .ok (.invokevirtual 226, 3) := by decide +kernel
theorem dX12_parts_137 : decode cX12_parts 137 = .ok (.goto 48, 3) := by decide +kernel
theorem dX12_parts_140 : decode cX12_parts 140 = .ok (.iload 8, 2) := by decide +kernel
theorem dX12_parts_142 : decode cX12_parts 142 = .ok (.ifCond .le 17, 3) := by decide +kernel
theorem dX12_parts_145 : decode cX12_parts 145 = .ok (.iinc 5 1, 3) := by decide +kernel
theorem dX12_parts_148 : decode cX12_parts 148 = .ok (.aload_n 0, 1) := by decide +kernel
theorem dX12_parts_149 : decode cX12_parts 149 = .ok (.iload 5, 2) := by decide +kernel
theorem dX12_parts_151 : decode cX12_parts 151 = .ok (.iload 8, 2) := by decide +kernel
theorem dX12_parts_153 : decode cX12_parts 153 = .ok (.invokevirtual 221, 3) := by decide +kernel
theorem dX12_parts_156 : decode cX12_parts 156 = .ok (.goto 29, 3) := by decide +kernel
theorem dX12_parts_159 : decode cX12_parts 159 = .ok (.aload_n 0, 1) := by decide +kernel
theorem dX12_parts_160 : decode cX12_parts 160 = .ok (.iload 5, 2) := by decide +kernel
theorem dX12_parts_162 : decode cX12_parts 162 = .ok (.iload 4, 2) := by decide +kernel
theorem dX12_parts_164 : decode cX12_parts 164 = .ok (.ifCond .ne 7, 3) := by decide +kernel
theorem dX12_parts_167 : decode cX12_parts 167 = .ok (.iconst 1, 1) := by decide +kernel
theorem dX12_parts_168 : decode cX12_parts 168 = .ok (.goto 4, 3) := by decide +kernel
theorem dX12_parts_171 : decode cX12_parts 171 = .ok (.iconst 0, 1) := by decide +kernel
theorem dX12_parts_172 : decode cX12_parts 172 = .ok (.invokevirtual 232, 3) := by decide +kernel
theorem dX12_parts_175 : decode cX12_parts 175 = .ok (.iconst 1, 1) := by decide +kernel
theorem dX12_parts_176 : decode cX12_parts 176 = .ok (.istore 4, 2) := by decide +kernel
theorem dX12_parts_178 : decode cX12_parts 178 = .ok (.aload_n 0, 1) := by decide +kernel
theorem dX12_parts_179 : decode cX12_parts 179 = .ok (.iload 5, 2) := by decide +kernel
theorem dX12_parts_181 : decode cX12_parts 181 = .ok (.iload_n 2, 1) := by decide +kernel
theorem dX12_parts_182 : decode cX12_parts 182 = .ok (.invokevirtual 226, 3) := by decide +kernel
theorem dX12_parts_185 : decode cX12_parts 185 = .ok (.iinc 6 1, 3) := by decide +kernel
theorem dX12_parts_188 : decode cX12_parts 188 = .ok (.goto (-173), 3) := by decide +kernel
theorem dX12_parts_191 : decode cX12_parts 191 = .ok (.iload 4, 2) := by decide +kernel
theorem dX12_parts_193 : decode cX12_parts 193 = .ok (.ireturn, 1) := by decide +kernel
theorem dX12_layHands_0 : decode cX12_layHands 0 = .ok (.aload_n 0, 1) := by decide +kernel
theorem dX12_layHands_1 : decode cX12_layHands 1 = .ok (.aload_n 1, 1) := by decide +kernel
theorem dX12_layHands_2 : decode cX12_layHands 2 = .ok (.aload_n 1, 1) := by decide +kernel
theorem dX12_layHands_3 : decode cX12_layHands 3 = .ok (.iconst 1, 1) := by decide +kernel
theorem dX12_layHands_4 : decode cX12_layHands 4 = .ok (.iaload, 1) := by decide +kernel
theorem dX12_layHands_5 : decode cX12_layHands 5 = .ok (.invokevirtual 236, 3) := by decide +kernel
theorem dX12_layHands_8 : decode cX12_layHands 8 = .ok (.iconst 1, 1) := by decide +kernel
theorem dX12_layHands_9 : decode cX12_layHands 9 = .ok (.istore_n 2, 1) := by decide +kernel
theorem dX12_layHands_10 : decode cX12_layHands 10 = .ok (.iload_n 2, 1) := by decide +kernel
theorem dX12_layHands_11 : decode cX12_layHands 11 = .ok (.aload_n 1, 1) := by decide +kernel
theorem dX12_layHands_12 : decode cX12_layHands 12 = .ok (.iconst 0, 1) := by decide +kernel
theorem dX12_layHands_13 : decode cX12_layHands 13 = .ok (.iaload, 1) := by decide +kernel
theorem dX12_layHands_14 : decode cX12_layHands 14 = .ok (.if_icmp .ge 22, 3) := by decide +kernel
theorem dX12_layHands_17 : decode cX12_layHands 17 = .ok (.aload_n 0, 1) := by decide +kernel
theorem dX12_layHands_18 : decode cX12_layHands 18 = .ok (.aload_n 1, 1) := by decide +kernel
theorem dX12_layHands_19 : decode cX12_layHands 19 = .ok (.invokestatic 204, 3) := by decide +kernel
theorem dX12_layHands_22 : decode cX12_layHands 22 = .ok (.iload_n 2, 1) := by decide +kernel
theorem dX12_layHands_23 : decode cX12_layHands 23 = .ok (.iconst 1, 1) := by decide +kernel
theorem dX12_layHands_24 : decode cX12_layHands 24 = .ok (.invokevirtual 239, 3) := by decide +kernel
theorem dX12_layHands_27 : decode cX12_layHands 27 = .ok (.ifCond .ne 9, 3) := by decide +kernel
theorem dX12_layHands_30 : decode cX12_layHands 30 = .ok (.iinc 2 1, 3) := by decide +kernel
theorem dX12_layHands_33 : decode cX12_layHands 33 = .ok (.goto (-23), 3) := by decide +kernel
theorem dX12_layHands_36 : decode cX12_layHands 36 = .ok (.iconst 0, 1) := by decide +kernel
theorem dX12_layHands_37 : decode cX12_layHands 37 = .ok (.istore_n 3, 1) := by decide +kernel
theorem dX12_layHands_38 : decode cX12_layHands 38 = .ok (.iload_n 3, 1) := by decide +kernel
theorem dX12_layHands_39 : decode cX12_layHands 39 = .ok (.bipush 10, 2) := by decide +kernel
theorem dX12_layHands_41 : decode cX12_layHands 41 = .ok (.if_icmp .ge 23, 3) := by decide +kernel
theorem dX12_layHands_44 : decode cX12_layHands 44 = .ok (.iload_n 2, 1) := by decide +kernel
theorem dX12_layHands_45 : decode cX12_layHands 45 = .ok (.aload_n 1, 1) := by decide +kernel
theorem dX12_layHands_46 : decode cX12_layHands 46 = .ok (.iconst 0, 1) := by decide +kernel
theorem dX12_layHands_47 : decode cX12_layHands 47 = .ok (.iaload, 1) := by decide +kernel
theorem dX12_layHands_48 : decode cX12_layHands 48 = .ok (.if_icmp .ne 16, 3) := by decide +kernel
theorem dX12_layHands_51 : decode cX12_layHands 51 = .ok (.aload_n 0, 1) := by decide +kernel
theorem dX12_layHands_52 : decode cX12_layHands 52 = .ok (.getfield 46, 3) := by decide +kernel
theorem dX12_layHands_55 : decode cX12_layHands 55 = .ok (.iload_n 3, 1) := by decide +kernel
theorem dX12_layHands_56 : decode cX12_layHands 56 = .ok (.iload_n 3, 1) := by decide +kernel
theorem dX12_layHands_57 : decode cX12_layHands 57 = .ok (.iastore, 1) := by decide +kernel
theorem dX12_layHands_58 : decode cX12_layHands 58 = .ok (.iinc 3 1, 3) := by decide +kernel
theorem dX12_layHands_61 : decode cX12_layHands 61 = .ok (.goto (-23), 3) := by decide +kernel
theorem dX12_layHands_64 : decode cX12_layHands 64 = .ok (.iload_n 2, 1) := by decide +kernel
theorem dX12_layHands_65 : decode cX12_layHands 65 = .ok (.ireturn, 1) := by decide +kernel
theorem dX12_pagesOf_0 : decode cX12_pagesOf 0 = .ok (.iconst 0, 1) := by decide +kernel
theorem dX12_pagesOf_1 : decode cX12_pagesOf 1 = .ok (.istore_n 2, 1) := by decide +kernel
theorem dX12_pagesOf_2 : decode cX12_pagesOf 2 = .ok (.iconst 0, 1) := by decide +kernel
theorem dX12_pagesOf_3 : decode cX12_pagesOf 3 = .ok (.istore_n 3, 1) := by decide +kernel
theorem dX12_pagesOf_4 : decode cX12_pagesOf 4 = .ok (.iload_n 3, 1) := by decide +kernel
theorem dX12_pagesOf_5 : decode cX12_pagesOf 5 = .ok (.aload_n 0, 1) := by decide +kernel
theorem dX12_pagesOf_6 : decode cX12_pagesOf 6 = .ok (.getfield 19, 3) := by decide +kernel
theorem dX12_pagesOf_9 : decode cX12_pagesOf 9 = .ok (.iconst 0, 1) := by decide +kernel
theorem dX12_pagesOf_10 : decode cX12_pagesOf 10 = .ok (.iaload, 1) := by decide +kernel
theorem dX12_pagesOf_11 : decode cX12_pagesOf 11 = .ok (.if_icmp .ge 29, 3) := by decide +kernel
theorem dX12_pagesOf_14 : decode cX12_pagesOf 14 = .ok (.iload_n 2, 1) := by decide +kernel
theorem dX12_pagesOf_15 : decode cX12_pagesOf 15 = .ok (.aload_n 0, 1) := by decide +kernel
theorem dX12_pagesOf_16 : decode cX12_pagesOf 16 = .ok (.getfield 46, 3) := by decide +kernel
theorem dX12_pagesOf_19 : decode cX12_pagesOf 19 = .ok (.iload_n 3, 1) := by decide +kernel
theorem dX12_pagesOf_20 : decode cX12_pagesOf 20 = .ok (.iaload, 1) := by decide +kernel
theorem dX12_pagesOf_21 : decode cX12_pagesOf 21 = .ok (.iload_n 1, 1) := by decide +kernel
theorem dX12_pagesOf_22 : decode cX12_pagesOf 22 = .ok (.if_icmp .ne 9, 3) := by decide +kernel
theorem dX12_pagesOf_25 : decode cX12_pagesOf 25 = .ok (.iconst 1, 1) := by decide +kernel
theorem dX12_pagesOf_26 : decode cX12_pagesOf 26 = .ok (.iload_n 3, 1) := by decide +kernel
theorem dX12_pagesOf_27 : decode cX12_pagesOf 27 = .ok (.ishl, 1) := by decide +kernel
theorem dX12_pagesOf_28 : decode cX12_pagesOf 28 = .ok (.goto 4, 3) := by decide +kernel
theorem dX12_pagesOf_31 : decode cX12_pagesOf 31 = .ok (.iconst 0, 1) := by decide +kernel
theorem dX12_pagesOf_32 : decode cX12_pagesOf 32 = .ok (.ior, 1) := by decide +kernel
theorem dX12_pagesOf_33 : decode cX12_pagesOf 33 = .ok (.istore_n 2, 1) := by decide +kernel
theorem dX12_pagesOf_34 : decode cX12_pagesOf 34 = .ok (.iinc 3 1, 3) := by decide +kernel
theorem dX12_pagesOf_37 : decode cX12_pagesOf 37 = .ok (.goto (-33), 3) := by decide +kernel
theorem dX12_pagesOf_40 : decode cX12_pagesOf 40 = .ok (.iload_n 2, 1) := by decide +kernel
theorem dX12_pagesOf_41 : decode cX12_pagesOf 41 = .ok (.ireturn, 1) := by decide +kernel
theorem dX12_isInDoubt_0 : decode cX12_isInDoubt 0 = .ok (.iconst 0, 1) := by decide +kernel
theorem dX12_isInDoubt_1 : decode cX12_isInDoubt 1 = .ok (.istore_n 3, 1) := by decide +kernel
theorem dX12_isInDoubt_2 : decode cX12_isInDoubt 2 = .ok (.iconst 0, 1) := by decide +kernel
theorem dX12_isInDoubt_3 : decode cX12_isInDoubt 3 = .ok (.istore 4, 2) := by decide +kernel
theorem dX12_isInDoubt_5 : decode cX12_isInDoubt 5 = .ok (.iload 4, 2) := by decide +kernel
theorem dX12_isInDoubt_7 : decode cX12_isInDoubt 7 = .ok (.iload_n 2, 1) := by decide +kernel
theorem dX12_isInDoubt_8 : decode cX12_isInDoubt 8 = .ok (.if_icmp .ge 48, 3) := by decide +kernel
theorem dX12_isInDoubt_11 : decode cX12_isInDoubt 11 = .ok (.iload_n 3, 1) := by decide +kernel
theorem dX12_isInDoubt_12 : decode cX12_isInDoubt 12 = .ok (.ifCond .ne 32, 3) := by decide +kernel
theorem dX12_isInDoubt_15 : decode cX12_isInDoubt 15 = .ok (.iload 4, 2) := by decide +kernel
theorem dX12_isInDoubt_17 : decode cX12_isInDoubt 17 = .ok (.aload_n 0, 1) := by decide +kernel
theorem dX12_isInDoubt_18 : decode cX12_isInDoubt 18 = .ok (.getfield 46, 3) := by decide +kernel
theorem dX12_isInDoubt_21 : decode cX12_isInDoubt 21 = .ok (.iload_n 1, 1) := by decide +kernel
theorem dX12_isInDoubt_22 : decode cX12_isInDoubt 22 = .ok (.iaload, 1) := by decide +kernel
theorem dX12_isInDoubt_23 : decode cX12_isInDoubt 23 = .ok (.if_icmp .eq 25, 3) := by decide +kernel
theorem dX12_isInDoubt_26 : decode cX12_isInDoubt 26 = .ok (.aload_n 0, 1) := by decide +kernel
theorem dX12_isInDoubt_27 : decode cX12_isInDoubt 27 = .ok (.iload 4, 2) := by decide +kernel
theorem dX12_isInDoubt_29 : decode cX12_isInDoubt 29 = .ok (.invokevirtual 243, 3) := by decide +kernel
theorem dX12_isInDoubt_32 : decode cX12_isInDoubt 32 = .ok (.aload_n 0, 1) := by decide +kernel
theorem dX12_isInDoubt_33 : decode cX12_isInDoubt 33 = .ok (.getfield 37, 3) := by decide +kernel
theorem dX12_isInDoubt_36 : decode cX12_isInDoubt 36 = .ok (.iload_n 1, 1) := by decide +kernel
theorem dX12_isInDoubt_37 : decode cX12_isInDoubt 37 = .ok (.iaload, 1) := by decide +kernel
theorem dX12_isInDoubt_38 : decode cX12_isInDoubt 38 = .ok (.iconst (-1), 1) := by decide +kernel
theorem dX12_isInDoubt_39 : decode cX12_isInDoubt 39 = .ok (.ixor, 1) := by decide +kernel
theorem dX12_isInDoubt_40 : decode cX12_isInDoubt 40 = .ok (.iand, 1) := by decide +kernel
theorem dX12_isInDoubt_41 : decode cX12_isInDoubt 41 = .ok (.ifCond .ne 7, 3) := by decide +kernel
theorem dX12_isInDoubt_44 : decode cX12_isInDoubt 44 = .ok (.iconst 1, 1) := by decide +kernel
theorem dX12_isInDoubt_45 : decode cX12_isInDoubt 45 = .ok (.goto 4, 3) := by decide +kernel
theorem dX12_isInDoubt_48 : decode cX12_isInDoubt 48 = .ok (.iconst 0, 1) := by decide +kernel
theorem dX12_isInDoubt_49 : decode cX12_isInDoubt 49 = .ok (.istore_n 3, 1) := by decide +kernel
theorem dX12_isInDoubt_50 : decode cX12_isInDoubt 50 = .ok (.iinc 4 1, 3) := by decide +kernel
theorem dX12_isInDoubt_53 : decode cX12_isInDoubt 53 = .ok (.goto (-48), 3) := by decide +kernel
theorem dX12_isInDoubt_56 : decode cX12_isInDoubt 56 = .ok (.iload_n 3, 1) := by decide +kernel
theorem dX12_isInDoubt_57 : decode cX12_isInDoubt 57 = .ok (.ireturn, 1) := by decide +kernel
theorem dX12_doubts_0 : decode cX12_doubts 0 = .ok (.iconst 0, 1) := by decide +kernel
theorem dX12_doubts_1 : decode cX12_doubts 1 = .ok (.istore_n 2, 1) := by decide +kernel
theorem dX12_doubts_2 : decode cX12_doubts 2 = .ok (.iconst 0, 1) := by decide +kernel
theorem dX12_doubts_3 : decode cX12_doubts 3 = .ok (.istore_n 3, 1) := by decide +kernel
theorem dX12_doubts_4 : decode cX12_doubts 4 = .ok (.iload_n 3, 1) := by decide +kernel
theorem dX12_doubts_5 : decode cX12_doubts 5 = .ok (.aload_n 0, 1) := by decide +kernel
theorem dX12_doubts_6 : decode cX12_doubts 6 = .ok (.getfield 19, 3) := by decide +kernel
theorem dX12_doubts_9 : decode cX12_doubts 9 = .ok (.iconst 0, 1) := by decide +kernel
theorem dX12_doubts_10 : decode cX12_doubts 10 = .ok (.iaload, 1) := by decide +kernel
theorem dX12_doubts_11 : decode cX12_doubts 11 = .ok (.if_icmp .ge 26, 3) := by decide +kernel
theorem dX12_doubts_14 : decode cX12_doubts 14 = .ok (.iload_n 2, 1) := by decide +kernel
theorem dX12_doubts_15 : decode cX12_doubts 15 = .ok (.aload_n 0, 1) := by decide +kernel
theorem dX12_doubts_16 : decode cX12_doubts 16 = .ok (.iload_n 3, 1) := by decide +kernel
theorem dX12_doubts_17 : decode cX12_doubts 17 = .ok (.iload_n 1, 1) := by decide +kernel
theorem dX12_doubts_18 : decode cX12_doubts 18 = .ok (.invokevirtual 246, 3) := by decide +kernel
theorem dX12_doubts_21 : decode cX12_doubts 21 = .ok (.ifCond .eq 7, 3) := by decide +kernel
theorem dX12_doubts_24 : decode cX12_doubts 24 = .ok (.iconst 1, 1) := by decide +kernel
theorem dX12_doubts_25 : decode cX12_doubts 25 = .ok (.goto 4, 3) := by decide +kernel
theorem dX12_doubts_28 : decode cX12_doubts 28 = .ok (.iconst 0, 1) := by decide +kernel
theorem dX12_doubts_29 : decode cX12_doubts 29 = .ok (.iadd, 1) := by decide +kernel
theorem dX12_doubts_30 : decode cX12_doubts 30 = .ok (.istore_n 2, 1) := by decide +kernel
theorem dX12_doubts_31 : decode cX12_doubts 31 = .ok (.iinc 3 1, 3) := by decide +kernel
theorem dX12_doubts_34 : decode cX12_doubts 34 = .ok (.goto (-30), 3) := by decide +kernel
theorem dX12_doubts_37 : decode cX12_doubts 37 = .ok (.iload_n 2, 1) := by decide +kernel
theorem dX12_doubts_38 : decode cX12_doubts 38 = .ok (.ireturn, 1) := by decide +kernel
theorem dX12_middleOf_0 : decode cX12_middleOf 0 = .ok (.iconst 0, 1) := by decide +kernel
theorem dX12_middleOf_1 : decode cX12_middleOf 1 = .ok (.istore_n 2, 1) := by decide +kernel
theorem dX12_middleOf_2 : decode cX12_middleOf 2 = .ok (.ldc 112, 2) := by decide +kernel
theorem dX12_middleOf_4 : decode cX12_middleOf 4 = .ok (.istore_n 3, 1) := by decide +kernel
theorem dX12_middleOf_5 : decode cX12_middleOf 5 = .ok (.iconst 0, 1) := by decide +kernel
theorem dX12_middleOf_6 : decode cX12_middleOf 6 = .ok (.istore 4, 2) := by decide +kernel
theorem dX12_middleOf_8 : decode cX12_middleOf 8 = .ok (.iload 4, 2) := by decide +kernel
theorem dX12_middleOf_10 : decode cX12_middleOf 10 = .ok (.aload_n 0, 1) := by decide +kernel
theorem dX12_middleOf_11 : decode cX12_middleOf 11 = .ok (.getfield 19, 3) := by decide +kernel
theorem dX12_middleOf_14 : decode cX12_middleOf 14 = .ok (.iconst 0, 1) := by decide +kernel
theorem dX12_middleOf_15 : decode cX12_middleOf 15 = .ok (.iaload, 1) := by decide +kernel
theorem dX12_middleOf_16 : decode cX12_middleOf 16 = .ok (.if_icmp .ge 117, 3) := by decide +kernel
theorem dX12_middleOf_19 : decode cX12_middleOf 19 = .ok (.iconst 0, 1) := by decide +kernel
theorem dX12_middleOf_20 : decode cX12_middleOf 20 = .ok (.istore 5, 2) := by decide +kernel
theorem dX12_middleOf_22 : decode cX12_middleOf 22 = .ok (.iconst 0, 1) := by decide +kernel
theorem dX12_middleOf_23 : decode cX12_middleOf 23 = .ok (.istore 6, 2) := by decide +kernel
theorem dX12_middleOf_25 : decode cX12_middleOf 25 = .ok (.iload 6, 2) := by decide +kernel
theorem dX12_middleOf_27 : decode cX12_middleOf 27 = .ok (.aload_n 0, 1) := by decide +kernel
theorem dX12_middleOf_28 : decode cX12_middleOf 28 = .ok (.getfield 19, 3) := by decide +kernel
theorem dX12_middleOf_31 : decode cX12_middleOf 31 = .ok (.iconst 0, 1) := by decide +kernel
theorem dX12_middleOf_32 : decode cX12_middleOf 32 = .ok (.iaload, 1) := by decide +kernel
theorem dX12_middleOf_33 : decode cX12_middleOf 33 = .ok (.if_icmp .ge 67, 3) := by decide +kernel
theorem dX12_middleOf_36 : decode cX12_middleOf 36 = .ok (.iload 4, 2) := by decide +kernel
theorem dX12_middleOf_38 : decode cX12_middleOf 38 = .ok (.iload 6, 2) := by decide +kernel
theorem dX12_middleOf_40 : decode cX12_middleOf 40 = .ok (.if_icmp .eq 35, 3) := by decide +kernel
theorem dX12_middleOf_43 : decode cX12_middleOf 43 = .ok (.iload_n 1, 1) := by decide +kernel
theorem dX12_middleOf_44 : decode cX12_middleOf 44 = .ok (.iload 4, 2) := by decide +kernel
theorem dX12_middleOf_46 : decode cX12_middleOf 46 = .ok (.invokestatic 90, 3) := by decide +kernel
theorem dX12_middleOf_49 : decode cX12_middleOf 49 = .ok (.ifCond .eq 26, 3) := by decide +kernel
theorem dX12_middleOf_52 : decode cX12_middleOf 52 = .ok (.iload_n 1, 1) := by decide +kernel
theorem dX12_middleOf_53 : decode cX12_middleOf 53 = .ok (.iload 6, 2) := by decide +kernel
theorem dX12_middleOf_55 : decode cX12_middleOf 55 = .ok (.invokestatic 90, 3) := by decide +kernel
theorem dX12_middleOf_58 : decode cX12_middleOf 58 = .ok (.ifCond .eq 17, 3) := by decide +kernel
theorem dX12_middleOf_61 : decode cX12_middleOf 61 = .ok (.aload_n 0, 1) := by decide +kernel
theorem dX12_middleOf_62 : decode cX12_middleOf 62 = .ok (.getfield 19, 3) := by decide +kernel
theorem dX12_middleOf_65 : decode cX12_middleOf 65 = .ok (.iload 4, 2) := by decide +kernel
theorem dX12_middleOf_67 : decode cX12_middleOf 67 = .ok (.iload 6, 2) := by decide +kernel
theorem dX12_middleOf_69 : decode cX12_middleOf 69 = .ok (.invokestatic 200, 3) := by decide +kernel
theorem dX12_middleOf_72 : decode cX12_middleOf 72 = .ok (.goto 4, 3) := by decide +kernel
theorem dX12_middleOf_75 : decode cX12_middleOf 75 = .ok (.iconst 0, 1) := by decide +kernel
theorem dX12_middleOf_76 : decode cX12_middleOf 76 = .ok (.istore 7, 2) := by decide +kernel
theorem dX12_middleOf_78 : decode cX12_middleOf 78 = .ok (.iload 7, 2) := by decide +kernel
theorem dX12_middleOf_80 : decode cX12_middleOf 80 = .ok (.iload 5, 2) := by decide +kernel
theorem dX12_middleOf_82 : decode cX12_middleOf 82 = .ok (.if_icmp .le 8, 3) := by decide +kernel
theorem dX12_middleOf_85 : decode cX12_middleOf 85 = .ok (.iload 7, 2) := by decide +kernel
theorem dX12_middleOf_87 : decode cX12_middleOf 87 = .ok (.goto 5, 3) := by decide +kernel
theorem dX12_middleOf_90 : decode cX12_middleOf 90 = .ok (.iload 5, 2) := by decide +kernel
theorem dX12_middleOf_92 : decode cX12_middleOf 92 = .ok (.istore 5, 2) := by decide +kernel
theorem dX12_middleOf_94 : decode cX12_middleOf 94 = .ok (.iinc 6 1, 3) := by decide +kernel
theorem dX12_middleOf_97 : decode cX12_middleOf 97 = .ok (.goto (-72), 3) := by decide +kernel
theorem dX12_middleOf_100 : decode cX12_middleOf 100 = .ok (.iload_n 1, 1) := by decide +kernel
theorem dX12_middleOf_101 : decode cX12_middleOf 101 = .ok (.iload 4, 2) := by decide +kernel
theorem dX12_middleOf_103 : decode cX12_middleOf 103 = .ok (.invokestatic 90, 3) := by decide +kernel
theorem dX12_middleOf_106 : decode cX12_middleOf 106 = .ok (.ifCond .eq 21, 3) := by decide +kernel
theorem dX12_middleOf_109 : decode cX12_middleOf 109 = .ok (.iload_n 3, 1) := by decide +kernel
theorem dX12_middleOf_110 : decode cX12_middleOf 110 = .ok (.ldc 112, 2) := by decide +kernel
theorem dX12_middleOf_112 : decode cX12_middleOf 112 = .ok (.if_icmp .eq 9, 3) := by decide +kernel
theorem dX12_middleOf_115 : decode cX12_middleOf 115 = .ok (.iload 5, 2) := by decide +kernel
theorem dX12_middleOf_117 : decode cX12_middleOf 117 = .ok (.iload_n 3, 1) := by decide +kernel
theorem dX12_middleOf_118 : decode cX12_middleOf 118 = .ok (.if_icmp .ge 9, 3) := by decide +kernel
theorem dX12_middleOf_121 : decode cX12_middleOf 121 = .ok (.iload 5, 2) := by decide +kernel
theorem dX12_middleOf_123 : decode cX12_middleOf 123 = .ok (.istore_n 3, 1) := by decide +kernel
theorem dX12_middleOf_124 : decode cX12_middleOf 124 = .ok (.iload 4, 2) := by decide +kernel
theorem dX12_middleOf_126 : decode cX12_middleOf 126 = .ok (.istore_n 2, 1) := by decide +kernel
theorem dX12_middleOf_127 : decode cX12_middleOf 127 = .ok (.iinc 4 1, 3) := by decide +kernel
theorem dX12_middleOf_130 : decode cX12_middleOf 130 = .ok (.goto (-122), 3) := by decide +kernel
theorem dX12_middleOf_133 : decode cX12_middleOf 133 = .ok (.iload_n 2, 1) := by decide +kernel
theorem dX12_middleOf_134 : decode cX12_middleOf 134 = .ok (.ireturn, 1) := by decide +kernel
theorem dX12_hand_0 : decode cX12_hand 0 = .ok (.aload_n 0, 1) := by decide +kernel
theorem dX12_hand_1 : decode cX12_hand 1 = .ok (.invokevirtual 159, 3) := by decide +kernel
theorem dX12_hand_4 : decode cX12_hand 4 = .ok (.ifCond .eq 14, 3) := by decide +kernel
theorem dX12_hand_7 : decode cX12_hand 7 = .ok (.aload_n 0, 1) := by decide +kernel
theorem dX12_hand_8 : decode cX12_hand 8 = .ok (.aload_n 0, 1) := by decide +kernel
theorem dX12_hand_9 : decode cX12_hand 9 = .ok (.getfield 19, 3) := by decide +kernel
theorem dX12_hand_12 : decode cX12_hand 12 = .ok (.invokevirtual 249, 3) := by decide +kernel
theorem dX12_hand_15 : decode cX12_hand 15 = .ok (.goto 4, 3) := by decide +kernel
theorem dX12_hand_18 : decode cX12_hand 18 = .ok (.iconst 0, 1) := by decide +kernel
theorem dX12_hand_19 : decode cX12_hand 19 = .ok (.istore_n 3, 1) := by decide +kernel
theorem dX12_hand_20 : decode cX12_hand 20 = .ok (.iload_n 1, 1) := by decide +kernel
theorem dX12_hand_21 : decode cX12_hand 21 = .ok (.i2l, 1) := by decide +kernel
theorem dX12_hand_22 : decode cX12_hand 22 = .ok (.lconst 0, 1) := by decide +kernel
theorem dX12_hand_23 : decode cX12_hand 23 = .ok (.iload_n 3, 1) := by decide +kernel
theorem dX12_hand_24 : decode cX12_hand 24 = .ok (.iconst 1, 1) := by decide +kernel
theorem dX12_hand_25 : decode cX12_hand 25 = .ok (.isub, 1) := by decide +kernel
theorem dX12_hand_26 : decode cX12_hand 26 = .ok (.i2l, 1) := by decide +kernel
theorem dX12_hand_27 : decode cX12_hand 27 = .ok (.invokestatic 75, 3) := by decide +kernel
theorem dX12_hand_30 : decode cX12_hand 30 = .ok (.ifCond .ne 6, 3) := by decide +kernel
theorem dX12_hand_33 : decode cX12_hand 33 = .ok (.ldc 85, 2) := by decide +kernel
theorem dX12_hand_35 : decode cX12_hand 35 = .ok (.ireturn, 1) := by decide +kernel
theorem dX12_hand_36 : decode cX12_hand 36 = .ok (.iload_n 2, 1) := by decide +kernel
theorem dX12_hand_37 : decode cX12_hand 37 = .ok (.tableswitch 56 0 2 #[27, 33, 46], 27) := by decide +kernel
theorem dX12_hand_64 : decode cX12_hand 64 = .ok (.aload_n 0, 1) := by decide +kernel
theorem dX12_hand_65 : decode cX12_hand 65 = .ok (.iload_n 1, 1) := by decide +kernel
theorem dX12_hand_66 : decode cX12_hand 66 = .ok (.invokevirtual 243, 3) := by decide +kernel
theorem dX12_hand_69 : decode cX12_hand 69 = .ok (.ireturn, 1) := by decide +kernel
theorem dX12_hand_70 : decode cX12_hand 70 = .ok (.aload_n 0, 1) := by decide +kernel
theorem dX12_hand_71 : decode cX12_hand 71 = .ok (.getfield 19, 3) := by decide +kernel
theorem dX12_hand_74 : decode cX12_hand 74 = .ok (.aload_n 0, 1) := by decide +kernel
theorem dX12_hand_75 : decode cX12_hand 75 = .ok (.iload_n 1, 1) := by decide +kernel
theorem dX12_hand_76 : decode cX12_hand 76 = .ok (.invokevirtual 243, 3) := by decide +kernel
theorem dX12_hand_79 : decode cX12_hand 79 = .ok (.invokestatic 208, 3) := by decide +kernel
theorem dX12_hand_82 : decode cX12_hand 82 = .ok (.ireturn, 1) := by decide +kernel
theorem dX12_hand_83 : decode cX12_hand 83 = .ok (.aload_n 0, 1) := by decide +kernel
theorem dX12_hand_84 : decode cX12_hand 84 = .ok (.aload_n 0, 1) := by decide +kernel
theorem dX12_hand_85 : decode cX12_hand 85 = .ok (.iload_n 1, 1) := by decide +kernel
theorem dX12_hand_86 : decode cX12_hand 86 = .ok (.invokevirtual 243, 3) := by decide +kernel
theorem dX12_hand_89 : decode cX12_hand 89 = .ok (.invokevirtual 252, 3) := by decide +kernel
theorem dX12_hand_92 : decode cX12_hand 92 = .ok (.ireturn, 1) := by decide +kernel
theorem dX12_hand_93 : decode cX12_hand 93 = .ok (.ldc 85, 2) := by decide +kernel
theorem dX12_hand_95 : decode cX12_hand 95 = .ok (.ireturn, 1) := by decide +kernel
theorem dX12_cutsAt_0 : decode cX12_cutsAt 0 = .ok (.iload_n 0, 1) := by decide +kernel
theorem dX12_cutsAt_1 : decode cX12_cutsAt 1 = .ok (.iload_n 2, 1) := by decide +kernel
theorem dX12_cutsAt_2 : decode cX12_cutsAt 2 = .ok (.iconst 1, 1) := by decide +kernel
theorem dX12_cutsAt_3 : decode cX12_cutsAt 3 = .ok (.isub, 1) := by decide +kernel
theorem dX12_cutsAt_4 : decode cX12_cutsAt 4 = .ok (.iload_n 1, 1) := by decide +kernel
theorem dX12_cutsAt_5 : decode cX12_cutsAt 5 = .ok (.isub, 1) := by decide +kernel
theorem dX12_cutsAt_6 : decode cX12_cutsAt 6 = .ok (.invokestatic 90, 3) := by decide +kernel
theorem dX12_cutsAt_9 : decode cX12_cutsAt 9 = .ok (.ireturn, 1) := by decide +kernel
theorem dX12_weightOf_0 : decode cX12_weightOf 0 = .ok (.aload_n 0, 1) := by decide +kernel
theorem dX12_weightOf_1 : decode cX12_weightOf 1 = .ok (.iconst 0, 1) := by decide +kernel
theorem dX12_weightOf_2 : decode cX12_weightOf 2 = .ok (.iaload, 1) := by decide +kernel
theorem dX12_weightOf_3 : decode cX12_weightOf 3 = .ok (.istore_n 2, 1) := by decide +kernel
theorem dX12_weightOf_4 : decode cX12_weightOf 4 = .ok (.iconst 0, 1) := by decide +kernel
theorem dX12_weightOf_5 : decode cX12_weightOf 5 = .ok (.istore_n 3, 1) := by decide +kernel
theorem dX12_weightOf_6 : decode cX12_weightOf 6 = .ok (.iconst 1, 1) := by decide +kernel
theorem dX12_weightOf_7 : decode cX12_weightOf 7 = .ok (.istore 4, 2) := by decide +kernel
theorem dX12_weightOf_9 : decode cX12_weightOf 9 = .ok (.iconst 1, 1) := by decide +kernel
theorem dX12_weightOf_10 : decode cX12_weightOf 10 = .ok (.istore 5, 2) := by decide +kernel
theorem dX12_weightOf_12 : decode cX12_weightOf 12 = .ok (.iload 5, 2) := by decide +kernel
theorem dX12_weightOf_14 : decode cX12_weightOf 14 = .ok (.iload_n 2, 1) := by decide +kernel
theorem dX12_weightOf_15 : decode cX12_weightOf 15 = .ok (.if_icmp .ge 44, 3) := by decide +kernel
theorem dX12_weightOf_18 : decode cX12_weightOf 18 = .ok (.iload_n 1, 1) := by decide +kernel
theorem dX12_weightOf_19 : decode cX12_weightOf 19 = .ok (.iload 5, 2) := by decide +kernel
theorem dX12_weightOf_21 : decode cX12_weightOf 21 = .ok (.iload_n 2, 1) := by decide +kernel
theorem dX12_weightOf_22 : decode cX12_weightOf 22 = .ok (.invokestatic 255, 3) := by decide +kernel
theorem dX12_weightOf_25 : decode cX12_weightOf 25 = .ok (.ifCond .eq 19, 3) := by decide +kernel
theorem dX12_weightOf_28 : decode cX12_weightOf 28 = .ok (.iload_n 3, 1) := by decide +kernel
theorem dX12_weightOf_29 : decode cX12_weightOf 29 = .ok (.aload_n 0, 1) := by decide +kernel
theorem dX12_weightOf_30 : decode cX12_weightOf 30 = .ok (.iload 4, 2) := by decide +kernel
theorem dX12_weightOf_32 : decode cX12_weightOf 32 = .ok (.invokestatic 208, 3) := by decide +kernel
theorem dX12_weightOf_35 : decode cX12_weightOf 35 = .ok (.aload_n 0, 1) := by decide +kernel
theorem dX12_weightOf_36 : decode cX12_weightOf 36 = .ok (.iconst 2, 1) := by decide +kernel
theorem dX12_weightOf_37 : decode cX12_weightOf 37 = .ok (.iaload, 1) := by decide +kernel
theorem dX12_weightOf_38 : decode cX12_weightOf 38 = .ok (.iadd, 1) := by decide +kernel
theorem dX12_weightOf_39 : decode cX12_weightOf 39 = .ok (.iadd, 1) := by decide +kernel
theorem dX12_weightOf_40 : decode cX12_weightOf 40 = .ok (.istore_n 3, 1) := by decide +kernel
theorem dX12_weightOf_41 : decode cX12_weightOf 41 = .ok (.iconst 0, 1) := by decide +kernel
theorem dX12_weightOf_42 : decode cX12_weightOf 42 = .ok (.istore 4, 2) := by decide +kernel
theorem dX12_weightOf_44 : decode cX12_weightOf 44 = .ok (.iload 4, 2) := by decide +kernel
theorem dX12_weightOf_46 : decode cX12_weightOf 46 = .ok (.iconst 1, 1) := by decide +kernel
theorem dX12_weightOf_47 : decode cX12_weightOf 47 = .ok (.iload 5, 2) := by decide +kernel
theorem dX12_weightOf_49 : decode cX12_weightOf 49 = .ok (.ishl, 1) := by decide +kernel
theorem dX12_weightOf_50 : decode cX12_weightOf 50 = .ok (.ior, 1) := by decide +kernel
theorem dX12_weightOf_51 : decode cX12_weightOf 51 = .ok (.istore 4, 2) := by decide +kernel
theorem dX12_weightOf_53 : decode cX12_weightOf 53 = .ok (.iinc 5 1, 3) := by decide +kernel
theorem dX12_weightOf_56 : decode cX12_weightOf 56 = .ok (.goto (-44), 3) := by decide +kernel
theorem dX12_weightOf_59 : decode cX12_weightOf 59 = .ok (.iload_n 3, 1) := by decide +kernel
theorem dX12_weightOf_60 : decode cX12_weightOf 60 = .ok (.aload_n 0, 1) := by decide +kernel
theorem dX12_weightOf_61 : decode cX12_weightOf 61 = .ok (.iload 4, 2) := by decide +kernel
theorem dX12_weightOf_63 : decode cX12_weightOf 63 = .ok (.invokestatic 208, 3) := by decide +kernel
theorem dX12_weightOf_66 : decode cX12_weightOf 66 = .ok (.iadd, 1) := by decide +kernel
theorem dX12_weightOf_67 : decode cX12_weightOf 67 = .ok (.ireturn, 1) := by decide +kernel
theorem dX12_layRuns_0 : decode cX12_layRuns 0 = .ok (.aload_n 0, 1) := by decide +kernel
theorem dX12_layRuns_1 : decode cX12_layRuns 1 = .ok (.getfield 19, 3) := by decide +kernel
theorem dX12_layRuns_4 : decode cX12_layRuns 4 = .ok (.iconst 0, 1) := by decide +kernel
theorem dX12_layRuns_5 : decode cX12_layRuns 5 = .ok (.iaload, 1) := by decide +kernel
theorem dX12_layRuns_6 : decode cX12_layRuns 6 = .ok (.istore_n 1, 1) := by decide +kernel
theorem dX12_layRuns_7 : decode cX12_layRuns 7 = .ok (.iconst 0, 1) := by decide +kernel
theorem dX12_layRuns_8 : decode cX12_layRuns 8 = .ok (.istore_n 2, 1) := by decide +kernel
theorem dX12_layRuns_9 : decode cX12_layRuns 9 = .ok (.ldc 112, 2) := by decide +kernel
theorem dX12_layRuns_11 : decode cX12_layRuns 11 = .ok (.istore_n 3, 1) := by decide +kernel
theorem dX12_layRuns_12 : decode cX12_layRuns 12 = .ok (.iconst 1, 1) := by decide +kernel
theorem dX12_layRuns_13 : decode cX12_layRuns 13 = .ok (.iload_n 1, 1) := by decide +kernel
theorem dX12_layRuns_14 : decode cX12_layRuns 14 = .ok (.iconst 1, 1) := by decide +kernel
theorem dX12_layRuns_15 : decode cX12_layRuns 15 = .ok (.isub, 1) := by decide +kernel
theorem dX12_layRuns_16 : decode cX12_layRuns 16 = .ok (.ishl, 1) := by decide +kernel
theorem dX12_layRuns_17 : decode cX12_layRuns 17 = .ok (.iconst 1, 1) := by decide +kernel
theorem dX12_layRuns_18 : decode cX12_layRuns 18 = .ok (.isub, 1) := by decide +kernel
theorem dX12_layRuns_19 : decode cX12_layRuns 19 = .ok (.istore 4, 2) := by decide +kernel
theorem dX12_layRuns_21 : decode cX12_layRuns 21 = .ok (.iload 4, 2) := by decide +kernel
theorem dX12_layRuns_23 : decode cX12_layRuns 23 = .ok (.ifCond .lt 56, 3) := by decide +kernel
theorem dX12_layRuns_26 : decode cX12_layRuns 26 = .ok (.aload_n 0, 1) := by decide +kernel
theorem dX12_layRuns_27 : decode cX12_layRuns 27 = .ok (.getfield 19, 3) := by decide +kernel
theorem dX12_layRuns_30 : decode cX12_layRuns 30 = .ok (.iload 4, 2) := by decide +kernel
theorem dX12_layRuns_32 : decode cX12_layRuns 32 = .ok (.invokestatic 259, 3) := by decide +kernel
theorem dX12_layRuns_35 : decode cX12_layRuns 35 = .ok (.istore 5, 2) := by decide +kernel
theorem dX12_layRuns_37 : decode cX12_layRuns 37 = .ok (.iload_n 3, 1) := by decide +kernel
theorem dX12_layRuns_38 : decode cX12_layRuns 38 = .ok (.ldc 112, 2) := by decide +kernel
theorem dX12_layRuns_40 : decode cX12_layRuns 40 = .ok (.if_icmp .eq 27, 3) := by decide +kernel
theorem dX12_layRuns_43 : decode cX12_layRuns 43 = .ok (.iload 5, 2) := by decide +kernel
theorem dX12_layRuns_45 : decode cX12_layRuns 45 = .ok (.iload_n 3, 1) := by decide +kernel
theorem dX12_layRuns_46 : decode cX12_layRuns 46 = .ok (.if_icmp .lt 21, 3) := by decide +kernel
theorem dX12_layRuns_49 : decode cX12_layRuns 49 = .ok (.iload 5, 2) := by decide +kernel
theorem dX12_layRuns_51 : decode cX12_layRuns 51 = .ok (.iload_n 3, 1) := by decide +kernel
theorem dX12_layRuns_52 : decode cX12_layRuns 52 = .ok (.if_icmp .ne 21, 3) := by decide +kernel
theorem dX12_layRuns_55 : decode cX12_layRuns 55 = .ok (.iload 4, 2) := by decide +kernel
theorem dX12_layRuns_57 : decode cX12_layRuns 57 = .ok (.invokestatic 262, 3) := by decide +kernel
theorem dX12_layRuns_60 : decode cX12_layRuns 60 = .ok (.iload_n 2, 1) := by decide +kernel
theorem dX12_layRuns_61 : decode cX12_layRuns 61 = .ok (.invokestatic 262, 3) := by decide +kernel
theorem dX12_layRuns_64 : decode cX12_layRuns 64 = .ok (.if_icmp .ge 9, 3) := by decide +kernel
theorem dX12_layRuns_67 : decode cX12_layRuns 67 = .ok (.iload 5, 2) := by decide +kernel
theorem dX12_layRuns_69 : decode cX12_layRuns 69 = .ok (.istore_n 3, 1) := by decide +kernel
theorem dX12_layRuns_70 : decode cX12_layRuns 70 = .ok (.iload 4, 2) := by decide +kernel
theorem dX12_layRuns_72 : decode cX12_layRuns 72 = .ok (.istore_n 2, 1) := by decide +kernel
theorem dX12_layRuns_73 : decode cX12_layRuns 73 = .ok (.iinc 4 (-1), 3) := by decide +kernel
theorem dX12_layRuns_76 : decode cX12_layRuns 76 = .ok (.goto (-55), 3) := by decide +kernel
theorem dX12_layRuns_79 : decode cX12_layRuns 79 = .ok (.aload_n 0, 1) := by decide +kernel
theorem dX12_layRuns_80 : decode cX12_layRuns 80 = .ok (.iload_n 3, 1) := by decide +kernel
theorem dX12_layRuns_81 : decode cX12_layRuns 81 = .ok (.putfield 265, 3) := by decide +kernel
theorem dX12_layRuns_84 : decode cX12_layRuns 84 = .ok (.iconst 1, 1) := by decide +kernel
theorem dX12_layRuns_85 : decode cX12_layRuns 85 = .ok (.istore 4, 2) := by decide +kernel
theorem dX12_layRuns_87 : decode cX12_layRuns 87 = .ok (.aload_n 0, 1) := by decide +kernel
theorem dX12_layRuns_88 : decode cX12_layRuns 88 = .ok (.getfield 52, 3) := by decide +kernel
theorem dX12_layRuns_91 : decode cX12_layRuns 91 = .ok (.iconst 0, 1) := by decide +kernel
theorem dX12_layRuns_92 : decode cX12_layRuns 92 = .ok (.iconst 0, 1) := by decide +kernel
theorem dX12_layRuns_93 : decode cX12_layRuns 93 = .ok (.iastore, 1) := by decide +kernel
theorem dX12_layRuns_94 : decode cX12_layRuns 94 = .ok (.iconst 1, 1) := by decide +kernel
theorem dX12_layRuns_95 : decode cX12_layRuns 95 = .ok (.istore 5, 2) := by decide +kernel
theorem dX12_layRuns_97 : decode cX12_layRuns 97 = .ok (.iload 5, 2) := by decide +kernel
theorem dX12_layRuns_99 : decode cX12_layRuns 99 = .ok (.iload_n 1, 1) := by decide +kernel
theorem dX12_layRuns_100 : decode cX12_layRuns 100 = .ok (.if_icmp .ge 31, 3) := by decide +kernel
theorem dX12_layRuns_103 : decode cX12_layRuns 103 = .ok (.iload_n 2, 1) := by decide +kernel
theorem dX12_layRuns_104 : decode cX12_layRuns 104 = .ok (.iload 5, 2) := by decide +kernel
theorem dX12_layRuns_106 : decode cX12_layRuns 106 = .ok (.iload_n 1, 1) := by decide +kernel
theorem dX12_layRuns_107 : decode cX12_layRuns 107 = .ok (.invokestatic 255, 3) := by decide +kernel
theorem dX12_layRuns_110 : decode cX12_layRuns 110 = .ok (.ifCond .eq 15, 3) := by decide +kernel
theorem dX12_layRuns_113 : decode cX12_layRuns 113 = .ok (.aload_n 0, 1) := by decide +kernel
theorem dX12_layRuns_114 : decode cX12_layRuns 114 = .ok (.getfield 52, 3) := by decide +kernel
theorem dX12_layRuns_117 : decode cX12_layRuns 117 = .ok (.iload 4, 2) := by decide +kernel
theorem dX12_layRuns_119 : decode cX12_layRuns 119 = .ok (.iload 5, 2) := by decide +kernel
theorem dX12_layRuns_121 : decode cX12_layRuns 121 = .ok (.iastore, 1) := by decide +kernel
theorem dX12_layRuns_122 : decode cX12_layRuns 122 = .ok (.iinc 4 1, 3) := by decide +kernel
theorem dX12_layRuns_125 : decode cX12_layRuns 125 = .ok (.iinc 5 1, 3) := by decide +kernel
theorem dX12_layRuns_128 : decode cX12_layRuns 128 = .ok (.goto (-31), 3) := by decide +kernel
theorem dX12_layRuns_131 : decode cX12_layRuns 131 = .ok (.aload_n 0, 1) := by decide +kernel
theorem dX12_layRuns_132 : decode cX12_layRuns 132 = .ok (.getfield 52, 3) := by decide +kernel
theorem dX12_layRuns_135 : decode cX12_layRuns 135 = .ok (.iload 4, 2) := by decide +kernel
theorem dX12_layRuns_137 : decode cX12_layRuns 137 = .ok (.iload_n 1, 1) := by decide +kernel
theorem dX12_layRuns_138 : decode cX12_layRuns 138 = .ok (.iastore, 1) := by decide +kernel
theorem dX12_layRuns_139 : decode cX12_layRuns 139 = .ok (.iload 4, 2) := by decide +kernel
theorem dX12_layRuns_141 : decode cX12_layRuns 141 = .ok (.ireturn, 1) := by decide +kernel
theorem dX12_runOf_0 : decode cX12_runOf 0 = .ok (.iconst 0, 1) := by decide +kernel
theorem dX12_runOf_1 : decode cX12_runOf 1 = .ok (.istore_n 3, 1) := by decide +kernel
theorem dX12_runOf_2 : decode cX12_runOf 2 = .ok (.iload_n 3, 1) := by decide +kernel
theorem dX12_runOf_3 : decode cX12_runOf 3 = .ok (.iload_n 2, 1) := by decide +kernel
theorem dX12_runOf_4 : decode cX12_runOf 4 = .ok (.iconst 1, 1) := by decide +kernel
theorem dX12_runOf_5 : decode cX12_runOf 5 = .ok (.isub, 1) := by decide +kernel
theorem dX12_runOf_6 : decode cX12_runOf 6 = .ok (.if_icmp .ge 21, 3) := by decide +kernel
theorem dX12_runOf_9 : decode cX12_runOf 9 = .ok (.aload_n 0, 1) := by decide +kernel
theorem dX12_runOf_10 : decode cX12_runOf 10 = .ok (.getfield 52, 3) := by decide +kernel
theorem dX12_runOf_13 : decode cX12_runOf 13 = .ok (.iload_n 3, 1) := by decide +kernel
theorem dX12_runOf_14 : decode cX12_runOf 14 = .ok (.iconst 1, 1) := by decide +kernel
theorem dX12_runOf_15 : decode cX12_runOf 15 = .ok (.iadd, 1) := by decide +kernel
theorem dX12_runOf_16 : decode cX12_runOf 16 = .ok (.iaload, 1) := by decide +kernel
theorem dX12_runOf_17 : decode cX12_runOf 17 = .ok (.iload_n 1, 1) := by decide +kernel
theorem dX12_runOf_18 : decode cX12_runOf 18 = .ok (.if_icmp .gt 9, 3) := by decide +kernel
theorem dX12_runOf_21 : decode cX12_runOf 21 = .ok (.iinc 3 1, 3) := by decide +kernel
theorem dX12_runOf_24 : decode cX12_runOf 24 = .ok (.goto (-22), 3) := by decide +kernel
theorem dX12_runOf_27 : decode cX12_runOf 27 = .ok (.iload_n 3, 1) := by decide +kernel
theorem dX12_runOf_28 : decode cX12_runOf 28 = .ok (.ireturn, 1) := by decide +kernel
theorem dX12_run_0 : decode cX12_run 0 = .ok (.aload_n 0, 1) := by decide +kernel
theorem dX12_run_1 : decode cX12_run 1 = .ok (.invokevirtual 159, 3) := by decide +kernel
theorem dX12_run_4 : decode cX12_run 4 = .ok (.ifCond .eq 10, 3) := by decide +kernel
theorem dX12_run_7 : decode cX12_run 7 = .ok (.aload_n 0, 1) := by decide +kernel
theorem dX12_run_8 : decode cX12_run 8 = .ok (.invokevirtual 268, 3) := by decide +kernel
theorem dX12_run_11 : decode cX12_run 11 = .ok (.goto 4, 3) := by decide +kernel
theorem dX12_run_14 : decode cX12_run 14 = .ok (.iconst 0, 1) := by decide +kernel
theorem dX12_run_15 : decode cX12_run 15 = .ok (.istore_n 3, 1) := by decide +kernel
theorem dX12_run_16 : decode cX12_run 16 = .ok (.iload_n 1, 1) := by decide +kernel
theorem dX12_run_17 : decode cX12_run 17 = .ok (.i2l, 1) := by decide +kernel
theorem dX12_run_18 : decode cX12_run 18 = .ok (.lconst 0, 1) := by decide +kernel
theorem dX12_run_19 : decode cX12_run 19 = .ok (.iload_n 3, 1) := by decide +kernel
theorem dX12_run_20 : decode cX12_run 20 = .ok (.iconst 1, 1) := by decide +kernel
theorem dX12_run_21 : decode cX12_run 21 = .ok (.isub, 1) := by decide +kernel
theorem dX12_run_22 : decode cX12_run 22 = .ok (.i2l, 1) := by decide +kernel
theorem dX12_run_23 : decode cX12_run 23 = .ok (.invokestatic 75, 3) := by decide +kernel
theorem dX12_run_26 : decode cX12_run 26 = .ok (.ifCond .ne 6, 3) := by decide +kernel
theorem dX12_run_29 : decode cX12_run 29 = .ok (.ldc 85, 2) := by decide +kernel
theorem dX12_run_31 : decode cX12_run 31 = .ok (.ireturn, 1) := by decide +kernel
theorem dX12_run_32 : decode cX12_run 32 = .ok (.aload_n 0, 1) := by decide +kernel
theorem dX12_run_33 : decode cX12_run 33 = .ok (.getfield 52, 3) := by decide +kernel
theorem dX12_run_36 : decode cX12_run 36 = .ok (.iload_n 1, 1) := by decide +kernel
theorem dX12_run_37 : decode cX12_run 37 = .ok (.iconst 1, 1) := by decide +kernel
theorem dX12_run_38 : decode cX12_run 38 = .ok (.iadd, 1) := by decide +kernel
theorem dX12_run_39 : decode cX12_run 39 = .ok (.iaload, 1) := by decide +kernel
theorem dX12_run_40 : decode cX12_run 40 = .ok (.aload_n 0, 1) := by decide +kernel
theorem dX12_run_41 : decode cX12_run 41 = .ok (.getfield 52, 3) := by decide +kernel
theorem dX12_run_44 : decode cX12_run 44 = .ok (.iload_n 1, 1) := by decide +kernel
theorem dX12_run_45 : decode cX12_run 45 = .ok (.iaload, 1) := by decide +kernel
theorem dX12_run_46 : decode cX12_run 46 = .ok (.isub, 1) := by decide +kernel
theorem dX12_run_47 : decode cX12_run 47 = .ok (.istore 4, 2) := by decide +kernel
theorem dX12_run_49 : decode cX12_run 49 = .ok (.iload_n 2, 1) := by decide +kernel
theorem dX12_run_50 : decode cX12_run 50 = .ok (.tableswitch 57 0 2 #[26, 33, 36], 26) := by decide +kernel
theorem dX12_run_76 : decode cX12_run 76 = .ok (.aload_n 0, 1) := by decide +kernel
theorem dX12_run_77 : decode cX12_run 77 = .ok (.getfield 52, 3) := by decide +kernel
theorem dX12_run_80 : decode cX12_run 80 = .ok (.iload_n 1, 1) := by decide +kernel
theorem dX12_run_81 : decode cX12_run 81 = .ok (.iaload, 1) := by decide +kernel
theorem dX12_run_82 : decode cX12_run 82 = .ok (.ireturn, 1) := by decide +kernel
theorem dX12_run_83 : decode cX12_run 83 = .ok (.iload 4, 2) := by decide +kernel
theorem dX12_run_85 : decode cX12_run 85 = .ok (.ireturn, 1) := by decide +kernel
theorem dX12_run_86 : decode cX12_run 86 = .ok (.aload_n 0, 1) := by decide +kernel
theorem dX12_run_87 : decode cX12_run 87 = .ok (.getfield 19, 3) := by decide +kernel
theorem dX12_run_90 : decode cX12_run 90 = .ok (.iconst 1, 1) := by decide +kernel
theorem dX12_run_91 : decode cX12_run 91 = .ok (.iload 4, 2) := by decide +kernel
theorem dX12_run_93 : decode cX12_run 93 = .ok (.ishl, 1) := by decide +kernel
theorem dX12_run_94 : decode cX12_run 94 = .ok (.iconst 1, 1) := by decide +kernel
theorem dX12_run_95 : decode cX12_run 95 = .ok (.isub, 1) := by decide +kernel
theorem dX12_run_96 : decode cX12_run 96 = .ok (.aload_n 0, 1) := by decide +kernel
theorem dX12_run_97 : decode cX12_run 97 = .ok (.getfield 52, 3) := by decide +kernel
theorem dX12_run_100 : decode cX12_run 100 = .ok (.iload_n 1, 1) := by decide +kernel
theorem dX12_run_101 : decode cX12_run 101 = .ok (.iaload, 1) := by decide +kernel
theorem dX12_run_102 : decode cX12_run 102 = .ok (.ishl, 1) := by decide +kernel
theorem dX12_run_103 : decode cX12_run 103 = .ok (.invokestatic 208, 3) := by decide +kernel
theorem dX12_run_106 : decode cX12_run 106 = .ok (.ireturn, 1) := by decide +kernel
theorem dX12_run_107 : decode cX12_run 107 = .ok (.ldc 85, 2) := by decide +kernel
theorem dX12_run_109 : decode cX12_run 109 = .ok (.ireturn, 1) := by decide +kernel
theorem dX12_writes_0 : decode cX12_writes 0 = .ok (.aload_n 0, 1) := by decide +kernel
theorem dX12_writes_1 : decode cX12_writes 1 = .ok (.getfield 55, 3) := by decide +kernel
theorem dX12_writes_4 : decode cX12_writes 4 = .ok (.aload_n 0, 1) := by decide +kernel
theorem dX12_writes_5 : decode cX12_writes 5 = .ok (.getfield 271, 3) := by decide +kernel
theorem dX12_writes_8 : decode cX12_writes 8 = .ok (.iload_n 1, 1) := by decide +kernel
theorem dX12_writes_9 : decode cX12_writes 9 = .ok (.iastore, 1) := by decide +kernel
theorem dX12_writes_10 : decode cX12_writes 10 = .ok (.aload_n 0, 1) := by decide +kernel
theorem dX12_writes_11 : decode cX12_writes 11 = .ok (.dup, 1) := by decide +kernel
theorem dX12_writes_12 : decode cX12_writes 12 = .ok (.getfield 271, 3) := by decide +kernel
theorem dX12_writes_15 : decode cX12_writes 15 = .ok (.iconst 1, 1) := by decide +kernel
theorem dX12_writes_16 : decode cX12_writes 16 = .ok (.iadd, 1) := by decide +kernel
theorem dX12_writes_17 : decode cX12_writes 17 = .ok (.putfield 271, 3) := by decide +kernel
theorem dX12_writes_20 : decode cX12_writes 20 = .ok (.return_, 1) := by decide +kernel
theorem dX12_layWritten_0 : decode cX12_layWritten 0 = .ok (.aload_n 0, 1) := by decide +kernel
theorem dX12_layWritten_1 : decode cX12_layWritten 1 = .ok (.aload_n 0, 1) := by decide +kernel
theorem dX12_layWritten_2 : decode cX12_layWritten 2 = .ok (.getfield 19, 3) := by decide +kernel
theorem dX12_layWritten_5 : decode cX12_layWritten 5 = .ok (.invokevirtual 249, 3) := by decide +kernel
theorem dX12_layWritten_8 : decode cX12_layWritten 8 = .ok (.istore_n 1, 1) := by decide +kernel
theorem dX12_layWritten_9 : decode cX12_layWritten 9 = .ok (.aload_n 0, 1) := by decide +kernel
theorem dX12_layWritten_10 : decode cX12_layWritten 10 = .ok (.iconst 0, 1) := by decide +kernel
theorem dX12_layWritten_11 : decode cX12_layWritten 11 = .ok (.putfield 271, 3) := by decide +kernel
theorem dX12_layWritten_14 : decode cX12_layWritten 14 = .ok (.iconst 0, 1) := by decide +kernel
theorem dX12_layWritten_15 : decode cX12_layWritten 15 = .ok (.istore_n 2, 1) := by decide +kernel
theorem dX12_layWritten_16 : decode cX12_layWritten 16 = .ok (.iload_n 2, 1) := by decide +kernel
theorem dX12_layWritten_17 : decode cX12_layWritten 17 = .ok (.iload_n 1, 1) := by decide +kernel
theorem dX12_layWritten_18 : decode cX12_layWritten 18 = .ok (.if_icmp .ge 102, 3) := by decide +kernel
theorem dX12_layWritten_21 : decode cX12_layWritten 21 = .ok (.iload_n 2, 1) := by decide +kernel
theorem dX12_layWritten_22 : decode cX12_layWritten 22 = .ok (.ifCond .le 9, 3) := by decide +kernel
theorem dX12_layWritten_25 : decode cX12_layWritten 25 = .ok (.aload_n 0, 1) := by decide +kernel
theorem dX12_layWritten_26 : decode cX12_layWritten 26 = .ok (.bipush 59, 2) := by decide +kernel
theorem dX12_layWritten_28 : decode cX12_layWritten 28 = .ok (.invokevirtual 274, 3) := by decide +kernel
theorem dX12_layWritten_31 : decode cX12_layWritten 31 = .ok (.aload_n 0, 1) := by decide +kernel
theorem dX12_layWritten_32 : decode cX12_layWritten 32 = .ok (.bipush 65, 2) := by decide +kernel
theorem dX12_layWritten_34 : decode cX12_layWritten 34 = .ok (.iload_n 2, 1) := by decide +kernel
theorem dX12_layWritten_35 : decode cX12_layWritten 35 = .ok (.iadd, 1) := by decide +kernel
theorem dX12_layWritten_36 : decode cX12_layWritten 36 = .ok (.invokevirtual 274, 3) := by decide +kernel
theorem dX12_layWritten_39 : decode cX12_layWritten 39 = .ok (.aload_n 0, 1) := by decide +kernel
theorem dX12_layWritten_40 : decode cX12_layWritten 40 = .ok (.iload_n 2, 1) := by decide +kernel
theorem dX12_layWritten_41 : decode cX12_layWritten 41 = .ok (.invokevirtual 243, 3) := by decide +kernel
theorem dX12_layWritten_44 : decode cX12_layWritten 44 = .ok (.istore_n 3, 1) := by decide +kernel
theorem dX12_layWritten_45 : decode cX12_layWritten 45 = .ok (.iconst 0, 1) := by decide +kernel
theorem dX12_layWritten_46 : decode cX12_layWritten 46 = .ok (.istore 4, 2) := by decide +kernel
theorem dX12_layWritten_48 : decode cX12_layWritten 48 = .ok (.iload 4, 2) := by decide +kernel
theorem dX12_layWritten_50 : decode cX12_layWritten 50 = .ok (.aload_n 0, 1) := by decide +kernel
theorem dX12_layWritten_51 : decode cX12_layWritten 51 = .ok (.getfield 19, 3) := by decide +kernel
theorem dX12_layWritten_54 : decode cX12_layWritten 54 = .ok (.iconst 0, 1) := by decide +kernel
theorem dX12_layWritten_55 : decode cX12_layWritten 55 = .ok (.iaload, 1) := by decide +kernel
theorem dX12_layWritten_56 : decode cX12_layWritten 56 = .ok (.if_icmp .ge 58, 3) := by decide +kernel
theorem dX12_layWritten_59 : decode cX12_layWritten 59 = .ok (.iload_n 3, 1) := by decide +kernel
theorem dX12_layWritten_60 : decode cX12_layWritten 60 = .ok (.iload 4, 2) := by decide +kernel
theorem dX12_layWritten_62 : decode cX12_layWritten 62 = .ok (.invokestatic 90, 3) := by decide +kernel
theorem dX12_layWritten_65 : decode cX12_layWritten 65 = .ok (.ifCond .eq 43, 3) := by decide +kernel
theorem dX12_layWritten_68 : decode cX12_layWritten 68 = .ok (.iload 4, 2) := by decide +kernel
theorem dX12_layWritten_70 : decode cX12_layWritten 70 = .ok (.iload_n 3, 1) := by decide +kernel
theorem dX12_layWritten_71 : decode cX12_layWritten 71 = .ok (.invokestatic 215, 3) := by decide +kernel
theorem dX12_layWritten_74 : decode cX12_layWritten 74 = .ok (.if_icmp .le 9, 3) := by decide +kernel
theorem dX12_layWritten_77 : decode cX12_layWritten 77 = .ok (.aload_n 0, 1) := by decide +kernel
theorem dX12_layWritten_78 : decode cX12_layWritten 78 = .ok (.bipush 44, 2) := by decide +kernel
theorem dX12_layWritten_80 : decode cX12_layWritten 80 = .ok (.invokevirtual 274, 3) := by decide +kernel
theorem dX12_layWritten_83 : decode cX12_layWritten 83 = .ok (.aload_n 0, 1) := by decide +kernel
theorem dX12_layWritten_84 : decode cX12_layWritten 84 = .ok (.bipush 48, 2) := by decide +kernel
theorem dX12_layWritten_86 : decode cX12_layWritten 86 = .ok (.iload 4, 2) := by decide +kernel
theorem dX12_layWritten_88 : decode cX12_layWritten 88 = .ok (.iadd, 1) := by decide +kernel
theorem dX12_layWritten_89 : decode cX12_layWritten 89 = .ok (.invokevirtual 274, 3) := by decide +kernel
theorem dX12_layWritten_92 : decode cX12_layWritten 92 = .ok (.aload_n 0, 1) := by decide +kernel
theorem dX12_layWritten_93 : decode cX12_layWritten 93 = .ok (.iload 4, 2) := by decide +kernel
theorem dX12_layWritten_95 : decode cX12_layWritten 95 = .ok (.iload_n 1, 1) := by decide +kernel
theorem dX12_layWritten_96 : decode cX12_layWritten 96 = .ok (.invokevirtual 246, 3) := by decide +kernel
theorem dX12_layWritten_99 : decode cX12_layWritten 99 = .ok (.ifCond .eq 9, 3) := by decide +kernel
theorem dX12_layWritten_102 : decode cX12_layWritten 102 = .ok (.aload_n 0, 1) := by decide +kernel
theorem dX12_layWritten_103 : decode cX12_layWritten 103 = .ok (.bipush 63, 2) := by decide +kernel
theorem dX12_layWritten_105 : decode cX12_layWritten 105 = .ok (.invokevirtual 274, 3) := by decide +kernel
theorem dX12_layWritten_108 : decode cX12_layWritten 108 = .ok (.iinc 4 1, 3) := by decide +kernel
theorem dX12_layWritten_111 : decode cX12_layWritten 111 = .ok (.goto (-63), 3) := by decide +kernel
theorem dX12_layWritten_114 : decode cX12_layWritten 114 = .ok (.iinc 2 1, 3) := by decide +kernel
theorem dX12_layWritten_117 : decode cX12_layWritten 117 = .ok (.goto (-101), 3) := by decide +kernel
theorem dX12_layWritten_120 : decode cX12_layWritten 120 = .ok (.aload_n 0, 1) := by decide +kernel
theorem dX12_layWritten_121 : decode cX12_layWritten 121 = .ok (.bipush 47, 2) := by decide +kernel
theorem dX12_layWritten_123 : decode cX12_layWritten 123 = .ok (.invokevirtual 274, 3) := by decide +kernel
theorem dX12_layWritten_126 : decode cX12_layWritten 126 = .ok (.aload_n 0, 1) := by decide +kernel
theorem dX12_layWritten_127 : decode cX12_layWritten 127 = .ok (.invokevirtual 268, 3) := by decide +kernel
theorem dX12_layWritten_130 : decode cX12_layWritten 130 = .ok (.istore_n 2, 1) := by decide +kernel
theorem dX12_layWritten_131 : decode cX12_layWritten 131 = .ok (.iconst 1, 1) := by decide +kernel
theorem dX12_layWritten_132 : decode cX12_layWritten 132 = .ok (.istore_n 3, 1) := by decide +kernel
theorem dX12_layWritten_133 : decode cX12_layWritten 133 = .ok (.iload_n 3, 1) := by decide +kernel
theorem dX12_layWritten_134 : decode cX12_layWritten 134 = .ok (.iload_n 2, 1) := by decide +kernel
theorem dX12_layWritten_135 : decode cX12_layWritten 135 = .ok (.if_icmp .ge 33, 3) := by decide +kernel
theorem dX12_layWritten_138 : decode cX12_layWritten 138 = .ok (.iload_n 3, 1) := by decide +kernel
theorem dX12_layWritten_139 : decode cX12_layWritten 139 = .ok (.iconst 1, 1) := by decide +kernel
theorem dX12_layWritten_140 : decode cX12_layWritten 140 = .ok (.if_icmp .le 9, 3) := by decide +kernel
theorem dX12_layWritten_143 : decode cX12_layWritten 143 = .ok (.aload_n 0, 1) := by decide +kernel
theorem dX12_layWritten_144 : decode cX12_layWritten 144 = .ok (.bipush 44, 2) := by decide +kernel
theorem dX12_layWritten_146 : decode cX12_layWritten 146 = .ok (.invokevirtual 274, 3) := by decide +kernel
theorem dX12_layWritten_149 : decode cX12_layWritten 149 = .ok (.aload_n 0, 1) := by decide +kernel
theorem dX12_layWritten_150 : decode cX12_layWritten 150 = .ok (.bipush 48, 2) := by decide +kernel
theorem dX12_layWritten_152 : decode cX12_layWritten 152 = .ok (.aload_n 0, 1) := by decide +kernel
theorem dX12_layWritten_153 : decode cX12_layWritten 153 = .ok (.getfield 52, 3) := by decide +kernel
theorem dX12_layWritten_156 : decode cX12_layWritten 156 = .ok (.iload_n 3, 1) := by decide +kernel
theorem dX12_layWritten_157 : decode cX12_layWritten 157 = .ok (.iaload, 1) := by decide +kernel
theorem dX12_layWritten_158 : decode cX12_layWritten 158 = .ok (.iadd, 1) := by decide +kernel
theorem dX12_layWritten_159 : decode cX12_layWritten 159 = .ok (.invokevirtual 274, 3) := by decide +kernel
theorem dX12_layWritten_162 : decode cX12_layWritten 162 = .ok (.iinc 3 1, 3) := by decide +kernel
theorem dX12_layWritten_165 : decode cX12_layWritten 165 = .ok (.goto (-32), 3) := by decide +kernel
theorem dX12_layWritten_168 : decode cX12_layWritten 168 = .ok (.return_, 1) := by decide +kernel
theorem dX12_sign_0 : decode cX12_sign 0 = .ok (.aload_n 0, 1) := by decide +kernel
theorem dX12_sign_1 : decode cX12_sign 1 = .ok (.invokevirtual 159, 3) := by decide +kernel
theorem dX12_sign_4 : decode cX12_sign 4 = .ok (.ifCond .ne 6, 3) := by decide +kernel
theorem dX12_sign_7 : decode cX12_sign 7 = .ok (.ldc 158, 2) := by decide +kernel
theorem dX12_sign_9 : decode cX12_sign 9 = .ok (.ireturn, 1) := by decide +kernel
theorem dX12_sign_10 : decode cX12_sign 10 = .ok (.iload_n 1, 1) := by decide +kernel
theorem dX12_sign_11 : decode cX12_sign 11 = .ok (.ifCond .ge 6, 3) := by decide +kernel
theorem dX12_sign_14 : decode cX12_sign 14 = .ok (.ldc 85, 2) := by decide +kernel
theorem dX12_sign_16 : decode cX12_sign 16 = .ok (.ireturn, 1) := by decide +kernel
theorem dX12_sign_17 : decode cX12_sign 17 = .ok (.aload_n 0, 1) := by decide +kernel
theorem dX12_sign_18 : decode cX12_sign 18 = .ok (.invokevirtual 277, 3) := by decide +kernel
theorem dX12_sign_21 : decode cX12_sign 21 = .ok (.iload_n 1, 1) := by decide +kernel
theorem dX12_sign_22 : decode cX12_sign 22 = .ok (.aload_n 0, 1) := by decide +kernel
theorem dX12_sign_23 : decode cX12_sign 23 = .ok (.getfield 271, 3) := by decide +kernel
theorem dX12_sign_26 : decode cX12_sign 26 = .ok (.if_icmp .ge 12, 3) := by decide +kernel
theorem dX12_sign_29 : decode cX12_sign 29 = .ok (.aload_n 0, 1) := by decide +kernel
theorem dX12_sign_30 : decode cX12_sign 30 = .ok (.getfield 55, 3) := by decide +kernel
theorem dX12_sign_33 : decode cX12_sign 33 = .ok (.iload_n 1, 1) := by decide +kernel
theorem dX12_sign_34 : decode cX12_sign 34 = .ok (.iaload, 1) := by decide +kernel
theorem dX12_sign_35 : decode cX12_sign 35 = .ok (.goto 5, 3) := by decide +kernel
theorem dX12_sign_38 : decode cX12_sign 38 = .ok (.ldc 112, 2) := by decide +kernel
theorem dX12_sign_40 : decode cX12_sign 40 = .ok (.ireturn, 1) := by decide +kernel
theorem dX12_page_0 : decode cX12_page 0 = .ok (.aload_n 0, 1) := by decide +kernel
theorem dX12_page_1 : decode cX12_page 1 = .ok (.iload_n 1, 1) := by decide +kernel
theorem dX12_page_2 : decode cX12_page 2 = .ok (.invokevirtual 178, 3) := by decide +kernel
theorem dX12_page_5 : decode cX12_page 5 = .ok (.ifCond .ne 6, 3) := by decide +kernel
theorem dX12_page_8 : decode cX12_page 8 = .ok (.ldc 85, 2) := by decide +kernel
theorem dX12_page_10 : decode cX12_page 10 = .ok (.ireturn, 1) := by decide +kernel
theorem dX12_page_11 : decode cX12_page 11 = .ok (.iconst 0, 1) := by decide +kernel
theorem dX12_page_12 : decode cX12_page 12 = .ok (.istore_n 3, 1) := by decide +kernel
theorem dX12_page_13 : decode cX12_page 13 = .ok (.iload_n 2, 1) := by decide +kernel
theorem dX12_page_14 : decode cX12_page 14 = .ok (.tableswitch 120 0 6 #[42, 42, 42, 57, 68, 84, 108], 42) := by decide +kernel
theorem dX12_page_56 : decode cX12_page 56 = .ok (.aload_n 0, 1) := by decide +kernel
theorem dX12_page_57 : decode cX12_page 57 = .ok (.getfield 19, 3) := by decide +kernel
theorem dX12_page_60 : decode cX12_page 60 = .ok (.iconst 3, 1) := by decide +kernel
theorem dX12_page_61 : decode cX12_page 61 = .ok (.iconst 4, 1) := by decide +kernel
theorem dX12_page_62 : decode cX12_page 62 = .ok (.iload_n 1, 1) := by decide +kernel
theorem dX12_page_63 : decode cX12_page 63 = .ok (.imul, 1) := by decide +kernel
theorem dX12_page_64 : decode cX12_page 64 = .ok (.iadd, 1) := by decide +kernel
theorem dX12_page_65 : decode cX12_page 65 = .ok (.iconst 1, 1) := by decide +kernel
theorem dX12_page_66 : decode cX12_page 66 = .ok (.iadd, 1) := by decide +kernel
theorem dX12_page_67 : decode cX12_page 67 = .ok (.iload_n 2, 1) := by decide +kernel
theorem dX12_page_68 : decode cX12_page 68 = .ok (.iadd, 1) := by decide +kernel
theorem dX12_page_69 : decode cX12_page 69 = .ok (.iaload, 1) := by decide +kernel
theorem dX12_page_70 : decode cX12_page 70 = .ok (.ireturn, 1) := by decide +kernel
theorem dX12_page_71 : decode cX12_page 71 = .ok (.aload_n 0, 1) := by decide +kernel
theorem dX12_page_72 : decode cX12_page 72 = .ok (.invokevirtual 280, 3) := by decide +kernel
theorem dX12_page_75 : decode cX12_page 75 = .ok (.istore_n 3, 1) := by decide +kernel
theorem dX12_page_76 : decode cX12_page 76 = .ok (.aload_n 0, 1) := by decide +kernel
theorem dX12_page_77 : decode cX12_page 77 = .ok (.iload_n 1, 1) := by decide +kernel
theorem dX12_page_78 : decode cX12_page 78 = .ok (.invokevirtual 283, 3) := by decide +kernel
theorem dX12_page_81 : decode cX12_page 81 = .ok (.ireturn, 1) := by decide +kernel
theorem dX12_page_82 : decode cX12_page 82 = .ok (.aload_n 0, 1) := by decide +kernel
theorem dX12_page_83 : decode cX12_page 83 = .ok (.aload_n 0, 1) := by decide +kernel
theorem dX12_page_84 : decode cX12_page 84 = .ok (.getfield 19, 3) := by decide +kernel
theorem dX12_page_87 : decode cX12_page 87 = .ok (.invokevirtual 249, 3) := by decide +kernel
theorem dX12_page_90 : decode cX12_page 90 = .ok (.istore_n 3, 1) := by decide +kernel
theorem dX12_page_91 : decode cX12_page 91 = .ok (.aload_n 0, 1) := by decide +kernel
theorem dX12_page_92 : decode cX12_page 92 = .ok (.getfield 46, 3) := by decide +kernel
theorem dX12_page_95 : decode cX12_page 95 = .ok (.iload_n 1, 1) := by decide +kernel
theorem dX12_page_96 : decode cX12_page 96 = .ok (.iaload, 1) := by decide +kernel
theorem dX12_page_97 : decode cX12_page 97 = .ok (.ireturn, 1) := by decide +kernel
theorem dX12_page_98 : decode cX12_page 98 = .ok (.aload_n 0, 1) := by decide +kernel
theorem dX12_page_99 : decode cX12_page 99 = .ok (.aload_n 0, 1) := by decide +kernel
theorem dX12_page_100 : decode cX12_page 100 = .ok (.getfield 19, 3) := by decide +kernel
theorem dX12_page_103 : decode cX12_page 103 = .ok (.invokevirtual 249, 3) := by decide +kernel
theorem dX12_page_106 : decode cX12_page 106 = .ok (.istore_n 3, 1) := by decide +kernel
theorem dX12_page_107 : decode cX12_page 107 = .ok (.aload_n 0, 1) := by decide +kernel
theorem dX12_page_108 : decode cX12_page 108 = .ok (.iload_n 1, 1) := by decide +kernel
theorem dX12_page_109 : decode cX12_page 109 = .ok (.iload_n 3, 1) := by decide +kernel
theorem dX12_page_110 : decode cX12_page 110 = .ok (.invokevirtual 246, 3) := by decide +kernel
theorem dX12_page_113 : decode cX12_page 113 = .ok (.ifCond .eq 7, 3) := by decide +kernel
theorem dX12_page_116 : decode cX12_page 116 = .ok (.iconst 1, 1) := by decide +kernel
theorem dX12_page_117 : decode cX12_page 117 = .ok (.goto 4, 3) := by decide +kernel
theorem dX12_page_120 : decode cX12_page 120 = .ok (.iconst 0, 1) := by decide +kernel
theorem dX12_page_121 : decode cX12_page 121 = .ok (.ireturn, 1) := by decide +kernel
theorem dX12_page_122 : decode cX12_page 122 = .ok (.aload_n 0, 1) := by decide +kernel
theorem dX12_page_123 : decode cX12_page 123 = .ok (.invokevirtual 268, 3) := by decide +kernel
theorem dX12_page_126 : decode cX12_page 126 = .ok (.istore_n 3, 1) := by decide +kernel
theorem dX12_page_127 : decode cX12_page 127 = .ok (.aload_n 0, 1) := by decide +kernel
theorem dX12_page_128 : decode cX12_page 128 = .ok (.iload_n 1, 1) := by decide +kernel
theorem dX12_page_129 : decode cX12_page 129 = .ok (.iload_n 3, 1) := by decide +kernel
theorem dX12_page_130 : decode cX12_page 130 = .ok (.invokevirtual 286, 3) := by decide +kernel
theorem dX12_page_133 : decode cX12_page 133 = .ok (.ireturn, 1) := by decide +kernel
theorem dX12_page_134 : decode cX12_page 134 = .ok (.ldc 85, 2) := by decide +kernel
theorem dX12_page_136 : decode cX12_page 136 = .ok (.ireturn, 1) := by decide +kernel
theorem dX12_whole_0 : decode cX12_whole 0 = .ok (.aload_n 0, 1) := by decide +kernel
theorem dX12_whole_1 : decode cX12_whole 1 = .ok (.invokevirtual 159, 3) := by decide +kernel
theorem dX12_whole_4 : decode cX12_whole 4 = .ok (.ifCond .ne 6, 3) := by decide +kernel
theorem dX12_whole_7 : decode cX12_whole 7 = .ok (.ldc 158, 2) := by decide +kernel
theorem dX12_whole_9 : decode cX12_whole 9 = .ok (.ireturn, 1) := by decide +kernel
theorem dX12_whole_10 : decode cX12_whole 10 = .ok (.iconst 0, 1) := by decide +kernel
theorem dX12_whole_11 : decode cX12_whole 11 = .ok (.istore_n 2, 1) := by decide +kernel
theorem dX12_whole_12 : decode cX12_whole 12 = .ok (.iload_n 1, 1) := by decide +kernel
theorem dX12_whole_13 : decode cX12_whole 13 = .ok (.tableswitch 131 0 8 #[51, 60, 75, 80, 90, 95, 110, 110, 122], 51) := by decide +kernel
theorem dX12_whole_64 : decode cX12_whole 64 = .ok (.aload_n 0, 1) := by decide +kernel
theorem dX12_whole_65 : decode cX12_whole 65 = .ok (.aload_n 0, 1) := by decide +kernel
theorem dX12_whole_66 : decode cX12_whole 66 = .ok (.getfield 19, 3) := by decide +kernel
theorem dX12_whole_69 : decode cX12_whole 69 = .ok (.invokevirtual 249, 3) := by decide +kernel
theorem dX12_whole_72 : decode cX12_whole 72 = .ok (.ireturn, 1) := by decide +kernel
theorem dX12_whole_73 : decode cX12_whole 73 = .ok (.aload_n 0, 1) := by decide +kernel
theorem dX12_whole_74 : decode cX12_whole 74 = .ok (.aload_n 0, 1) := by decide +kernel
theorem dX12_whole_75 : decode cX12_whole 75 = .ok (.getfield 19, 3) := by decide +kernel
theorem dX12_whole_78 : decode cX12_whole 78 = .ok (.invokevirtual 249, 3) := by decide +kernel
theorem dX12_whole_81 : decode cX12_whole 81 = .ok (.istore_n 2, 1) := by decide +kernel
theorem dX12_whole_82 : decode cX12_whole 82 = .ok (.aload_n 0, 1) := by decide +kernel
theorem dX12_whole_83 : decode cX12_whole 83 = .ok (.iload_n 2, 1) := by decide +kernel
theorem dX12_whole_84 : decode cX12_whole 84 = .ok (.invokevirtual 289, 3) := by decide +kernel
theorem dX12_whole_87 : decode cX12_whole 87 = .ok (.ireturn, 1) := by decide +kernel
theorem dX12_whole_88 : decode cX12_whole 88 = .ok (.aload_n 0, 1) := by decide +kernel
theorem dX12_whole_89 : decode cX12_whole 89 = .ok (.invokevirtual 268, 3) := by decide +kernel
theorem dX12_whole_92 : decode cX12_whole 92 = .ok (.ireturn, 1) := by decide +kernel
theorem dX12_whole_93 : decode cX12_whole 93 = .ok (.aload_n 0, 1) := by decide +kernel
theorem dX12_whole_94 : decode cX12_whole 94 = .ok (.invokevirtual 268, 3) := by decide +kernel
theorem dX12_whole_97 : decode cX12_whole 97 = .ok (.istore_n 2, 1) := by decide +kernel
theorem dX12_whole_98 : decode cX12_whole 98 = .ok (.aload_n 0, 1) := by decide +kernel
theorem dX12_whole_99 : decode cX12_whole 99 = .ok (.getfield 265, 3) := by decide +kernel
theorem dX12_whole_102 : decode cX12_whole 102 = .ok (.ireturn, 1) := by decide +kernel
theorem dX12_whole_103 : decode cX12_whole 103 = .ok (.aload_n 0, 1) := by decide +kernel
theorem dX12_whole_104 : decode cX12_whole 104 = .ok (.invokevirtual 280, 3) := by decide +kernel
theorem dX12_whole_107 : decode cX12_whole 107 = .ok (.ireturn, 1) := by decide +kernel
theorem dX12_whole_108 : decode cX12_whole 108 = .ok (.aload_n 0, 1) := by decide +kernel
theorem dX12_whole_109 : decode cX12_whole 109 = .ok (.getfield 19, 3) := by decide +kernel
theorem dX12_whole_112 : decode cX12_whole 112 = .ok (.aload_n 0, 1) := by decide +kernel
theorem dX12_whole_113 : decode cX12_whole 113 = .ok (.getfield 19, 3) := by decide +kernel
theorem dX12_whole_116 : decode cX12_whole 116 = .ok (.invokestatic 204, 3) := by decide +kernel
theorem dX12_whole_119 : decode cX12_whole 119 = .ok (.invokestatic 208, 3) := by decide +kernel
theorem dX12_whole_122 : decode cX12_whole 122 = .ok (.ireturn, 1) := by decide +kernel
theorem dX12_whole_123 : decode cX12_whole 123 = .ok (.aload_n 0, 1) := by decide +kernel
theorem dX12_whole_124 : decode cX12_whole 124 = .ok (.getfield 19, 3) := by decide +kernel
theorem dX12_whole_127 : decode cX12_whole 127 = .ok (.iconst 1, 1) := by decide +kernel
theorem dX12_whole_128 : decode cX12_whole 128 = .ok (.iload_n 1, 1) := by decide +kernel
theorem dX12_whole_129 : decode cX12_whole 129 = .ok (.iadd, 1) := by decide +kernel
theorem dX12_whole_130 : decode cX12_whole 130 = .ok (.bipush 6, 2) := by decide +kernel
theorem dX12_whole_132 : decode cX12_whole 132 = .ok (.isub, 1) := by decide +kernel
theorem dX12_whole_133 : decode cX12_whole 133 = .ok (.iaload, 1) := by decide +kernel
theorem dX12_whole_134 : decode cX12_whole 134 = .ok (.ireturn, 1) := by decide +kernel
theorem dX12_whole_135 : decode cX12_whole 135 = .ok (.aload_n 0, 1) := by decide +kernel
theorem dX12_whole_136 : decode cX12_whole 136 = .ok (.invokevirtual 277, 3) := by decide +kernel
theorem dX12_whole_139 : decode cX12_whole 139 = .ok (.aload_n 0, 1) := by decide +kernel
theorem dX12_whole_140 : decode cX12_whole 140 = .ok (.getfield 271, 3) := by decide +kernel
theorem dX12_whole_143 : decode cX12_whole 143 = .ok (.ireturn, 1) := by decide +kernel
theorem dX12_whole_144 : decode cX12_whole 144 = .ok (.ldc 85, 2) := by decide +kernel
theorem dX12_whole_146 : decode cX12_whole 146 = .ok (.ireturn, 1) := by decide +kernel
theorem dX12_isAt_0 : decode cX12_isAt 0 = .ok (.iload_n 2, 1) := by decide +kernel
theorem dX12_isAt_1 : decode cX12_isAt 1 = .ok (.ifCond .ne 19, 3) := by decide +kernel
theorem dX12_isAt_4 : decode cX12_isAt 4 = .ok (.aload_n 0, 1) := by decide +kernel
theorem dX12_isAt_5 : decode cX12_isAt 5 = .ok (.getfield 96, 3) := by decide +kernel
theorem dX12_isAt_8 : decode cX12_isAt 8 = .ok (.iload_n 1, 1) := by decide +kernel
theorem dX12_isAt_9 : decode cX12_isAt 9 = .ok (.if_icmp .gt 7, 3) := by decide +kernel
theorem dX12_isAt_12 : decode cX12_isAt 12 = .ok (.iconst 1, 1) := by decide +kernel
theorem dX12_isAt_13 : decode cX12_isAt 13 = .ok (.goto 30, 3) := by decide +kernel
theorem dX12_isAt_16 : decode cX12_isAt 16 = .ok (.iconst 0, 1) := by decide +kernel
theorem dX12_isAt_17 : decode cX12_isAt 17 = .ok (.goto 26, 3) := by decide +kernel
theorem dX12_isAt_20 : decode cX12_isAt 20 = .ok (.iload_n 1, 1) := by decide +kernel
theorem dX12_isAt_21 : decode cX12_isAt 21 = .ok (.aload_n 0, 1) := by decide +kernel
theorem dX12_isAt_22 : decode cX12_isAt 22 = .ok (.getfield 96, 3) := by decide +kernel
theorem dX12_isAt_25 : decode cX12_isAt 25 = .ok (.if_icmp .ge 17, 3) := by decide +kernel
theorem dX12_isAt_28 : decode cX12_isAt 28 = .ok (.aload_n 0, 1) := by decide +kernel
theorem dX12_isAt_29 : decode cX12_isAt 29 = .ok (.getfield 31, 3) := by decide +kernel
theorem dX12_isAt_32 : decode cX12_isAt 32 = .ok (.iload_n 1, 1) := by decide +kernel
theorem dX12_isAt_33 : decode cX12_isAt 33 = .ok (.iaload, 1) := by decide +kernel
theorem dX12_isAt_34 : decode cX12_isAt 34 = .ok (.iload_n 2, 1) := by decide +kernel
theorem dX12_isAt_35 : decode cX12_isAt 35 = .ok (.if_icmp .ne 7, 3) := by decide +kernel
theorem dX12_isAt_38 : decode cX12_isAt 38 = .ok (.iconst 1, 1) := by decide +kernel
theorem dX12_isAt_39 : decode cX12_isAt 39 = .ok (.goto 4, 3) := by decide +kernel
theorem dX12_isAt_42 : decode cX12_isAt 42 = .ok (.iconst 0, 1) := by decide +kernel
theorem dX12_isAt_43 : decode cX12_isAt 43 = .ok (.ireturn, 1) := by decide +kernel
theorem dX12_isTold_0 : decode cX12_isTold 0 = .ok (.aload_n 0, 1) := by decide +kernel
theorem dX12_isTold_1 : decode cX12_isTold 1 = .ok (.iconst 0, 1) := by decide +kernel
theorem dX12_isTold_2 : decode cX12_isTold 2 = .ok (.iload_n 1, 1) := by decide +kernel
theorem dX12_isTold_3 : decode cX12_isTold 3 = .ok (.invokevirtual 292, 3) := by decide +kernel
theorem dX12_isTold_6 : decode cX12_isTold 6 = .ok (.ifCond .eq 64, 3) := by decide +kernel
theorem dX12_isTold_9 : decode cX12_isTold 9 = .ok (.aload_n 0, 1) := by decide +kernel
theorem dX12_isTold_10 : decode cX12_isTold 10 = .ok (.iconst 1, 1) := by decide +kernel
theorem dX12_isTold_11 : decode cX12_isTold 11 = .ok (.iload_n 2, 1) := by decide +kernel
theorem dX12_isTold_12 : decode cX12_isTold 12 = .ok (.invokevirtual 292, 3) := by decide +kernel
theorem dX12_isTold_15 : decode cX12_isTold 15 = .ok (.ifCond .eq 55, 3) := by decide +kernel
theorem dX12_isTold_18 : decode cX12_isTold 18 = .ok (.aload_n 0, 1) := by decide +kernel
theorem dX12_isTold_19 : decode cX12_isTold 19 = .ok (.iconst 2, 1) := by decide +kernel
theorem dX12_isTold_20 : decode cX12_isTold 20 = .ok (.iload_n 3, 1) := by decide +kernel
theorem dX12_isTold_21 : decode cX12_isTold 21 = .ok (.invokevirtual 292, 3) := by decide +kernel
theorem dX12_isTold_24 : decode cX12_isTold 24 = .ok (.ifCond .eq 46, 3) := by decide +kernel
theorem dX12_isTold_27 : decode cX12_isTold 27 = .ok (.aload_n 0, 1) := by decide +kernel
theorem dX12_isTold_28 : decode cX12_isTold 28 = .ok (.iconst 3, 1) := by decide +kernel
theorem dX12_isTold_29 : decode cX12_isTold 29 = .ok (.iload 4, 2) := by decide +kernel
theorem dX12_isTold_31 : decode cX12_isTold 31 = .ok (.invokevirtual 292, 3) := by decide +kernel
theorem dX12_isTold_34 : decode cX12_isTold 34 = .ok (.ifCond .eq 36, 3) := by decide +kernel
theorem dX12_isTold_37 : decode cX12_isTold 37 = .ok (.aload_n 0, 1) := by decide +kernel
theorem dX12_isTold_38 : decode cX12_isTold 38 = .ok (.iconst 4, 1) := by decide +kernel
theorem dX12_isTold_39 : decode cX12_isTold 39 = .ok (.iload 5, 2) := by decide +kernel
theorem dX12_isTold_41 : decode cX12_isTold 41 = .ok (.invokevirtual 292, 3) := by decide +kernel
theorem dX12_isTold_44 : decode cX12_isTold 44 = .ok (.ifCond .eq 26, 3) := by decide +kernel
theorem dX12_isTold_47 : decode cX12_isTold 47 = .ok (.aload_n 0, 1) := by decide +kernel
theorem dX12_isTold_48 : decode cX12_isTold 48 = .ok (.iconst 5, 1) := by decide +kernel
theorem dX12_isTold_49 : decode cX12_isTold 49 = .ok (.iload 6, 2) := by decide +kernel
theorem dX12_isTold_51 : decode cX12_isTold 51 = .ok (.invokevirtual 292, 3) := by decide +kernel
theorem dX12_isTold_54 : decode cX12_isTold 54 = .ok (.ifCond .eq 16, 3) := by decide +kernel
theorem dX12_isTold_57 : decode cX12_isTold 57 = .ok (.aload_n 0, 1) := by decide +kernel
theorem dX12_isTold_58 : decode cX12_isTold 58 = .ok (.getfield 96, 3) := by decide +kernel
theorem dX12_isTold_61 : decode cX12_isTold 61 = .ok (.bipush 6, 2) := by decide +kernel
theorem dX12_isTold_63 : decode cX12_isTold 63 = .ok (.if_icmp .gt 7, 3) := by decide +kernel
theorem dX12_isTold_66 : decode cX12_isTold 66 = .ok (.iconst 1, 1) := by decide +kernel
theorem dX12_isTold_67 : decode cX12_isTold 67 = .ok (.goto 4, 3) := by decide +kernel
theorem dX12_isTold_70 : decode cX12_isTold 70 = .ok (.iconst 0, 1) := by decide +kernel
theorem dX12_isTold_71 : decode cX12_isTold 71 = .ok (.ireturn, 1) := by decide +kernel
theorem dX12_asked_0 : decode cX12_asked 0 = .ok (.aload_n 0, 1) := by decide +kernel
theorem dX12_asked_1 : decode cX12_asked 1 = .ok (.bipush 104, 2) := by decide +kernel
theorem dX12_asked_3 : decode cX12_asked 3 = .ok (.bipush 97, 2) := by decide +kernel
theorem dX12_asked_5 : decode cX12_asked 5 = .ok (.bipush 110, 2) := by decide +kernel
theorem dX12_asked_7 : decode cX12_asked 7 = .ok (.bipush 100, 2) := by decide +kernel
theorem dX12_asked_9 : decode cX12_asked 9 = .ok (.bipush 115, 2) := by decide +kernel
theorem dX12_asked_11 : decode cX12_asked 11 = .ok (.iconst 0, 1) := by decide +kernel
theorem dX12_asked_12 : decode cX12_asked 12 = .ok (.invokevirtual 295, 3) := by decide +kernel
theorem dX12_asked_15 : decode cX12_asked 15 = .ok (.ifCond .eq 7, 3) := by decide +kernel
theorem dX12_asked_18 : decode cX12_asked 18 = .ok (.iconst 0, 1) := by decide +kernel
theorem dX12_asked_19 : decode cX12_asked 19 = .ok (.goto 97, 3) := by decide +kernel
theorem dX12_asked_22 : decode cX12_asked 22 = .ok (.aload_n 0, 1) := by decide +kernel
theorem dX12_asked_23 : decode cX12_asked 23 = .ok (.bipush 100, 2) := by decide +kernel
theorem dX12_asked_25 : decode cX12_asked 25 = .ok (.bipush 111, 2) := by decide +kernel
theorem dX12_asked_27 : decode cX12_asked 27 = .ok (.bipush 117, 2) := by decide +kernel
theorem dX12_asked_29 : decode cX12_asked 29 = .ok (.bipush 98, 2) := by decide +kernel
theorem dX12_asked_31 : decode cX12_asked 31 = .ok (.bipush 116, 2) := by decide +kernel
theorem dX12_asked_33 : decode cX12_asked 33 = .ok (.bipush 115, 2) := by decide +kernel
theorem dX12_asked_35 : decode cX12_asked 35 = .ok (.invokevirtual 295, 3) := by decide +kernel
theorem dX12_asked_38 : decode cX12_asked 38 = .ok (.ifCond .eq 7, 3) := by decide +kernel
theorem dX12_asked_41 : decode cX12_asked 41 = .ok (.iconst 1, 1) := by decide +kernel
theorem dX12_asked_42 : decode cX12_asked 42 = .ok (.goto 74, 3) := by decide +kernel
theorem dX12_asked_45 : decode cX12_asked 45 = .ok (.aload_n 0, 1) := by decide +kernel
theorem dX12_asked_46 : decode cX12_asked 46 = .ok (.bipush 114, 2) := by decide +kernel
theorem dX12_asked_48 : decode cX12_asked 48 = .ok (.bipush 117, 2) := by decide +kernel
theorem dX12_asked_50 : decode cX12_asked 50 = .ok (.bipush 110, 2) := by decide +kernel
theorem dX12_asked_52 : decode cX12_asked 52 = .ok (.bipush 115, 2) := by decide +kernel
theorem dX12_asked_54 : decode cX12_asked 54 = .ok (.iconst 0, 1) := by decide +kernel
theorem dX12_asked_55 : decode cX12_asked 55 = .ok (.iconst 0, 1) := by decide +kernel
theorem dX12_asked_56 : decode cX12_asked 56 = .ok (.invokevirtual 295, 3) := by decide +kernel
theorem dX12_asked_59 : decode cX12_asked 59 = .ok (.ifCond .eq 7, 3) := by decide +kernel
theorem dX12_asked_62 : decode cX12_asked 62 = .ok (.iconst 2, 1) := by decide +kernel
theorem dX12_asked_63 : decode cX12_asked 63 = .ok (.goto 53, 3) := by decide +kernel
theorem dX12_asked_66 : decode cX12_asked 66 = .ok (.aload_n 0, 1) := by decide +kernel
theorem dX12_asked_67 : decode cX12_asked 67 = .ok (.bipush 119, 2) := by decide +kernel
theorem dX12_asked_69 : decode cX12_asked 69 = .ok (.bipush 101, 2) := by decide +kernel
theorem dX12_asked_71 : decode cX12_asked 71 = .ok (.bipush 105, 2) := by decide +kernel
theorem dX12_asked_73 : decode cX12_asked 73 = .ok (.bipush 103, 2) := by decide +kernel
theorem dX12_asked_75 : decode cX12_asked 75 = .ok (.bipush 104, 2) := by decide +kernel
theorem dX12_asked_77 : decode cX12_asked 77 = .ok (.bipush 116, 2) := by decide +kernel
theorem dX12_asked_79 : decode cX12_asked 79 = .ok (.invokevirtual 295, 3) := by decide +kernel
theorem dX12_asked_82 : decode cX12_asked 82 = .ok (.ifCond .eq 7, 3) := by decide +kernel
theorem dX12_asked_85 : decode cX12_asked 85 = .ok (.iconst 3, 1) := by decide +kernel
theorem dX12_asked_86 : decode cX12_asked 86 = .ok (.goto 30, 3) := by decide +kernel
theorem dX12_asked_89 : decode cX12_asked 89 = .ok (.aload_n 0, 1) := by decide +kernel
theorem dX12_asked_90 : decode cX12_asked 90 = .ok (.bipush 103, 2) := by decide +kernel
theorem dX12_asked_92 : decode cX12_asked 92 = .ok (.bipush 114, 2) := by decide +kernel
theorem dX12_asked_94 : decode cX12_asked 94 = .ok (.bipush 111, 2) := by decide +kernel
theorem dX12_asked_96 : decode cX12_asked 96 = .ok (.bipush 117, 2) := by decide +kernel
theorem dX12_asked_98 : decode cX12_asked 98 = .ok (.bipush 112, 2) := by decide +kernel
theorem dX12_asked_100 : decode cX12_asked 100 = .ok (.bipush 115, 2) := by decide +kernel
theorem dX12_asked_102 : decode cX12_asked 102 = .ok (.invokevirtual 295, 3) := by decide +kernel
theorem dX12_asked_105 : decode cX12_asked 105 = .ok (.ifCond .eq 7, 3) := by decide +kernel
theorem dX12_asked_108 : decode cX12_asked 108 = .ok (.iconst 4, 1) := by decide +kernel
theorem dX12_asked_109 : decode cX12_asked 109 = .ok (.goto 7, 3) := by decide +kernel
theorem dX12_asked_112 : decode cX12_asked 112 = .ok (.aload_n 0, 1) := by decide +kernel
theorem dX12_asked_113 : decode cX12_asked 113 = .ok (.invokevirtual 299, 3) := by decide +kernel
theorem dX12_asked_116 : decode cX12_asked 116 = .ok (.ireturn, 1) := by decide +kernel
theorem dX12_askedLater_0 : decode cX12_askedLater 0 = .ok (.aload_n 0, 1) := by decide +kernel
theorem dX12_askedLater_1 : decode cX12_askedLater 1 = .ok (.bipush 115, 2) := by decide +kernel
theorem dX12_askedLater_3 : decode cX12_askedLater 3 = .ok (.bipush 112, 2) := by decide +kernel
theorem dX12_askedLater_5 : decode cX12_askedLater 5 = .ok (.bipush 114, 2) := by decide +kernel
theorem dX12_askedLater_7 : decode cX12_askedLater 7 = .ok (.bipush 101, 2) := by decide +kernel
theorem dX12_askedLater_9 : decode cX12_askedLater 9 = .ok (.bipush 97, 2) := by decide +kernel
theorem dX12_askedLater_11 : decode cX12_askedLater 11 = .ok (.bipush 100, 2) := by decide +kernel
theorem dX12_askedLater_13 : decode cX12_askedLater 13 = .ok (.invokevirtual 295, 3) := by decide +kernel
theorem dX12_askedLater_16 : decode cX12_askedLater 16 = .ok (.ifCond .eq 7, 3) := by decide +kernel
theorem dX12_askedLater_19 : decode cX12_askedLater 19 = .ok (.iconst 5, 1) := by decide +kernel
theorem dX12_askedLater_20 : decode cX12_askedLater 20 = .ok (.goto 74, 3) := by decide +kernel
theorem dX12_askedLater_23 : decode cX12_askedLater 23 = .ok (.aload_n 0, 1) := by decide +kernel
theorem dX12_askedLater_24 : decode cX12_askedLater 24 = .ok (.bipush 108, 2) := by decide +kernel
theorem dX12_askedLater_26 : decode cX12_askedLater 26 = .ok (.bipush 105, 2) := by decide +kernel
theorem dX12_askedLater_28 : decode cX12_askedLater 28 = .ok (.bipush 109, 2) := by decide +kernel
theorem dX12_askedLater_30 : decode cX12_askedLater 30 = .ok (.bipush 105, 2) := by decide +kernel
theorem dX12_askedLater_32 : decode cX12_askedLater 32 = .ok (.bipush 116, 2) := by decide +kernel
theorem dX12_askedLater_34 : decode cX12_askedLater 34 = .ok (.iconst 0, 1) := by decide +kernel
theorem dX12_askedLater_35 : decode cX12_askedLater 35 = .ok (.invokevirtual 295, 3) := by decide +kernel
theorem dX12_askedLater_38 : decode cX12_askedLater 38 = .ok (.ifCond .eq 8, 3) := by decide +kernel
theorem dX12_askedLater_41 : decode cX12_askedLater 41 = .ok (.bipush 6, 2) := by decide +kernel
theorem dX12_askedLater_43 : decode cX12_askedLater 43 = .ok (.goto 51, 3) := by decide +kernel
theorem dX12_askedLater_46 : decode cX12_askedLater 46 = .ok (.aload_n 0, 1) := by decide +kernel
theorem dX12_askedLater_47 : decode cX12_askedLater 47 = .ok (.bipush 99, 2) := by decide +kernel
theorem dX12_askedLater_49 : decode cX12_askedLater 49 = .ok (.bipush 104, 2) := by decide +kernel
theorem dX12_askedLater_51 : decode cX12_askedLater 51 = .ok (.bipush 97, 2) := by decide +kernel
theorem dX12_askedLater_53 : decode cX12_askedLater 53 = .ok (.bipush 110, 2) := by decide +kernel
theorem dX12_askedLater_55 : decode cX12_askedLater 55 = .ok (.bipush 103, 2) := by decide +kernel
theorem dX12_askedLater_57 : decode cX12_askedLater 57 = .ok (.bipush 101, 2) := by decide +kernel
theorem dX12_askedLater_59 : decode cX12_askedLater 59 = .ok (.invokevirtual 295, 3) := by decide +kernel
theorem dX12_askedLater_62 : decode cX12_askedLater 62 = .ok (.ifCond .eq 8, 3) := by decide +kernel
theorem dX12_askedLater_65 : decode cX12_askedLater 65 = .ok (.bipush 7, 2) := by decide +kernel
theorem dX12_askedLater_67 : decode cX12_askedLater 67 = .ok (.goto 27, 3) := by decide +kernel
theorem dX12_askedLater_70 : decode cX12_askedLater 70 = .ok (.aload_n 0, 1) := by decide +kernel
theorem dX12_askedLater_71 : decode cX12_askedLater 71 = .ok (.bipush 112, 2) := by decide +kernel
theorem dX12_askedLater_73 : decode cX12_askedLater 73 = .ok (.bipush 97, 2) := by decide +kernel
theorem dX12_askedLater_75 : decode cX12_askedLater 75 = .ok (.bipush 103, 2) := by decide +kernel
theorem dX12_askedLater_77 : decode cX12_askedLater 77 = .ok (.bipush 101, 2) := by decide +kernel
theorem dX12_askedLater_79 : decode cX12_askedLater 79 = .ok (.bipush 115, 2) := by decide +kernel
theorem dX12_askedLater_81 : decode cX12_askedLater 81 = .ok (.iconst 0, 1) := by decide +kernel
theorem dX12_askedLater_82 : decode cX12_askedLater 82 = .ok (.invokevirtual 295, 3) := by decide +kernel
theorem dX12_askedLater_85 : decode cX12_askedLater 85 = .ok (.ifCond .eq 8, 3) := by decide +kernel
theorem dX12_askedLater_88 : decode cX12_askedLater 88 = .ok (.bipush 9, 2) := by decide +kernel
theorem dX12_askedLater_90 : decode cX12_askedLater 90 = .ok (.goto 4, 3) := by decide +kernel
theorem dX12_askedLater_93 : decode cX12_askedLater 93 = .ok (.iconst (-1), 1) := by decide +kernel
theorem dX12_askedLater_94 : decode cX12_askedLater 94 = .ok (.ireturn, 1) := by decide +kernel
theorem dX12_say_0 : decode cX12_say 0 = .ok (.aload_n 0, 1) := by decide +kernel
theorem dX12_say_1 : decode cX12_say 1 = .ok (.invokevirtual 302, 3) := by decide +kernel
theorem dX12_say_4 : decode cX12_say 4 = .ok (.istore_n 1, 1) := by decide +kernel
theorem dX12_say_5 : decode cX12_say 5 = .ok (.aload_n 0, 1) := by decide +kernel
theorem dX12_say_6 : decode cX12_say 6 = .ok (.iconst 0, 1) := by decide +kernel
theorem dX12_say_7 : decode cX12_say 7 = .ok (.putfield 96, 3) := by decide +kernel
theorem dX12_say_10 : decode cX12_say 10 = .ok (.aload_n 0, 1) := by decide +kernel
theorem dX12_say_11 : decode cX12_say 11 = .ok (.invokevirtual 159, 3) := by decide +kernel
theorem dX12_say_14 : decode cX12_say 14 = .ok (.ifCond .ne 6, 3) := by decide +kernel
theorem dX12_say_17 : decode cX12_say 17 = .ok (.ldc 158, 2) := by decide +kernel
theorem dX12_say_19 : decode cX12_say 19 = .ok (.ireturn, 1) := by decide +kernel
theorem dX12_say_20 : decode cX12_say 20 = .ok (.iload_n 1, 1) := by decide +kernel
theorem dX12_say_21 : decode cX12_say 21 = .ok (.ifCond .ge 8, 3) := by decide +kernel
theorem dX12_say_24 : decode cX12_say 24 = .ok (.ldc 112, 2) := by decide +kernel
theorem dX12_say_26 : decode cX12_say 26 = .ok (.goto 23, 3) := by decide +kernel
theorem dX12_say_29 : decode cX12_say 29 = .ok (.iload_n 1, 1) := by decide +kernel
theorem dX12_say_30 : decode cX12_say 30 = .ok (.bipush 9, 2) := by decide +kernel
theorem dX12_say_32 : decode cX12_say 32 = .ok (.if_icmp .ne 12, 3) := by decide +kernel
theorem dX12_say_35 : decode cX12_say 35 = .ok (.aload_n 0, 1) := by decide +kernel
theorem dX12_say_36 : decode cX12_say 36 = .ok (.getfield 19, 3) := by decide +kernel
theorem dX12_say_39 : decode cX12_say 39 = .ok (.iconst 0, 1) := by decide +kernel
theorem dX12_say_40 : decode cX12_say 40 = .ok (.iaload, 1) := by decide +kernel
theorem dX12_say_41 : decode cX12_say 41 = .ok (.goto 8, 3) := by decide +kernel
theorem dX12_say_44 : decode cX12_say 44 = .ok (.aload_n 0, 1) := by decide +kernel
theorem dX12_say_45 : decode cX12_say 45 = .ok (.iload_n 1, 1) := by decide +kernel
theorem dX12_say_46 : decode cX12_say 46 = .ok (.invokevirtual 305, 3) := by decide +kernel
theorem dX12_say_49 : decode cX12_say 49 = .ok (.ireturn, 1) := by decide +kernel
theorem dX12_without_0 : decode cX12_without 0 = .ok (.aload_n 0, 1) := by decide +kernel
theorem dX12_without_1 : decode cX12_without 1 = .ok (.iload_n 1, 1) := by decide +kernel
theorem dX12_without_2 : decode cX12_without 2 = .ok (.invokevirtual 178, 3) := by decide +kernel
theorem dX12_without_5 : decode cX12_without 5 = .ok (.ifCond .ne 6, 3) := by decide +kernel
theorem dX12_without_8 : decode cX12_without 8 = .ok (.ldc 85, 2) := by decide +kernel
theorem dX12_without_10 : decode cX12_without 10 = .ok (.ireturn, 1) := by decide +kernel
theorem dX12_without_11 : decode cX12_without 11 = .ok (.aload_n 0, 1) := by decide +kernel
theorem dX12_without_12 : decode cX12_without 12 = .ok (.getfield 19, 3) := by decide +kernel
theorem dX12_without_15 : decode cX12_without 15 = .ok (.iconst 0, 1) := by decide +kernel
theorem dX12_without_16 : decode cX12_without 16 = .ok (.iaload, 1) := by decide +kernel
theorem dX12_without_17 : decode cX12_without 17 = .ok (.iconst 1, 1) := by decide +kernel
theorem dX12_without_18 : decode cX12_without 18 = .ok (.if_icmp .ne 6, 3) := by decide +kernel
theorem dX12_without_21 : decode cX12_without 21 = .ok (.ldc 158, 2) := by decide +kernel
theorem dX12_without_23 : decode cX12_without 23 = .ok (.ireturn, 1) := by decide +kernel
theorem dX12_without_24 : decode cX12_without 24 = .ok (.aload_n 0, 1) := by decide +kernel
theorem dX12_without_25 : decode cX12_without 25 = .ok (.invokevirtual 308, 3) := by decide +kernel
theorem dX12_without_28 : decode cX12_without 28 = .ok (.aload_n 0, 1) := by decide +kernel
theorem dX12_without_29 : decode cX12_without 29 = .ok (.getfield 25, 3) := by decide +kernel
theorem dX12_without_32 : decode cX12_without 32 = .ok (.iload_n 1, 1) := by decide +kernel
theorem dX12_without_33 : decode cX12_without 33 = .ok (.invokestatic 181, 3) := by decide +kernel
theorem dX12_without_36 : decode cX12_without 36 = .ok (.aload_n 0, 1) := by decide +kernel
theorem dX12_without_37 : decode cX12_without 37 = .ok (.aload_n 0, 1) := by decide +kernel
theorem dX12_without_38 : decode cX12_without 38 = .ok (.getfield 25, 3) := by decide +kernel
theorem dX12_without_41 : decode cX12_without 41 = .ok (.invokevirtual 249, 3) := by decide +kernel
theorem dX12_without_44 : decode cX12_without 44 = .ok (.ireturn, 1) := by decide +kernel
theorem dX12_least_0 : decode cX12_least 0 = .ok (.aload_n 0, 1) := by decide +kernel
theorem dX12_least_1 : decode cX12_least 1 = .ok (.invokevirtual 159, 3) := by decide +kernel
theorem dX12_least_4 : decode cX12_least 4 = .ok (.ifCond .ne 6, 3) := by decide +kernel
theorem dX12_least_7 : decode cX12_least 7 = .ok (.ldc 158, 2) := by decide +kernel
theorem dX12_least_9 : decode cX12_least 9 = .ok (.ireturn, 1) := by decide +kernel
theorem dX12_least_10 : decode cX12_least 10 = .ok (.iload_n 1, 1) := by decide +kernel
theorem dX12_least_11 : decode cX12_least 11 = .ok (.i2l, 1) := by decide +kernel
theorem dX12_least_12 : decode cX12_least 12 = .ok (.lconst 1, 1) := by decide +kernel
theorem dX12_least_13 : decode cX12_least 13 = .ok (.ldc2_w 311, 3) := by decide +kernel
theorem dX12_least_16 : decode cX12_least 16 = .ok (.invokestatic 75, 3) := by decide +kernel
theorem dX12_least_19 : decode cX12_least 19 = .ok (.ifCond .ne 6, 3) := by decide +kernel
theorem dX12_least_22 : decode cX12_least 22 = .ok (.ldc 85, 2) := by decide +kernel
theorem dX12_least_24 : decode cX12_least 24 = .ok (.ireturn, 1) := by decide +kernel
theorem dX12_least_25 : decode cX12_least 25 = .ok (.iconst 0, 1) := by decide +kernel
theorem dX12_least_26 : decode cX12_least 26 = .ok (.istore_n 2, 1) := by decide +kernel
theorem dX12_least_27 : decode cX12_least 27 = .ok (.aload_n 0, 1) := by decide +kernel
theorem dX12_least_28 : decode cX12_least 28 = .ok (.aload_n 0, 1) := by decide +kernel
theorem dX12_least_29 : decode cX12_least 29 = .ok (.getfield 19, 3) := by decide +kernel
theorem dX12_least_32 : decode cX12_least 32 = .ok (.iload_n 2, 1) := by decide +kernel
theorem dX12_least_33 : decode cX12_least 33 = .ok (.invokevirtual 236, 3) := by decide +kernel
theorem dX12_least_36 : decode cX12_least 36 = .ok (.iload_n 2, 1) := by decide +kernel
theorem dX12_least_37 : decode cX12_least 37 = .ok (.sipush 200, 3) := by decide +kernel
theorem dX12_least_40 : decode cX12_least 40 = .ok (.if_icmp .ge 34, 3) := by decide +kernel
theorem dX12_least_43 : decode cX12_least 43 = .ok (.aload_n 0, 1) := by decide +kernel
theorem dX12_least_44 : decode cX12_least 44 = .ok (.aload_n 0, 1) := by decide +kernel
theorem dX12_least_45 : decode cX12_least 45 = .ok (.getfield 19, 3) := by decide +kernel
theorem dX12_least_48 : decode cX12_least 48 = .ok (.invokestatic 204, 3) := by decide +kernel
theorem dX12_least_51 : decode cX12_least 51 = .ok (.iload_n 1, 1) := by decide +kernel
theorem dX12_least_52 : decode cX12_least 52 = .ok (.iconst 0, 1) := by decide +kernel
theorem dX12_least_53 : decode cX12_least 53 = .ok (.invokevirtual 239, 3) := by decide +kernel
theorem dX12_least_56 : decode cX12_least 56 = .ok (.ifCond .ne 18, 3) := by decide +kernel
theorem dX12_least_59 : decode cX12_least 59 = .ok (.iinc 2 1, 3) := by decide +kernel
theorem dX12_least_62 : decode cX12_least 62 = .ok (.aload_n 0, 1) := by decide +kernel
theorem dX12_least_63 : decode cX12_least 63 = .ok (.aload_n 0, 1) := by decide +kernel
theorem dX12_least_64 : decode cX12_least 64 = .ok (.getfield 19, 3) := by decide +kernel
theorem dX12_least_67 : decode cX12_least 67 = .ok (.iload_n 2, 1) := by decide +kernel
theorem dX12_least_68 : decode cX12_least 68 = .ok (.invokevirtual 236, 3) := by decide +kernel
theorem dX12_least_71 : decode cX12_least 71 = .ok (.goto (-35), 3) := by decide +kernel
theorem dX12_least_74 : decode cX12_least 74 = .ok (.iload_n 2, 1) := by decide +kernel
theorem dX12_least_75 : decode cX12_least 75 = .ok (.ireturn, 1) := by decide +kernel
theorem dX12_pairs_0 : decode cX12_pairs 0 = .ok (.aload_n 0, 1) := by decide +kernel
theorem dX12_pairs_1 : decode cX12_pairs 1 = .ok (.iload_n 1, 1) := by decide +kernel
theorem dX12_pairs_2 : decode cX12_pairs 2 = .ok (.invokevirtual 178, 3) := by decide +kernel
theorem dX12_pairs_5 : decode cX12_pairs 5 = .ok (.ifCond .ne 6, 3) := by decide +kernel
theorem dX12_pairs_8 : decode cX12_pairs 8 = .ok (.ldc 85, 2) := by decide +kernel
theorem dX12_pairs_10 : decode cX12_pairs 10 = .ok (.ireturn, 1) := by decide +kernel
theorem dX12_pairs_11 : decode cX12_pairs 11 = .ok (.aload_n 0, 1) := by decide +kernel
theorem dX12_pairs_12 : decode cX12_pairs 12 = .ok (.aload_n 0, 1) := by decide +kernel
theorem dX12_pairs_13 : decode cX12_pairs 13 = .ok (.getfield 19, 3) := by decide +kernel
theorem dX12_pairs_16 : decode cX12_pairs 16 = .ok (.aload_n 0, 1) := by decide +kernel
theorem dX12_pairs_17 : decode cX12_pairs 17 = .ok (.getfield 19, 3) := by decide +kernel
theorem dX12_pairs_20 : decode cX12_pairs 20 = .ok (.iconst 1, 1) := by decide +kernel
theorem dX12_pairs_21 : decode cX12_pairs 21 = .ok (.iaload, 1) := by decide +kernel
theorem dX12_pairs_22 : decode cX12_pairs 22 = .ok (.invokevirtual 236, 3) := by decide +kernel
theorem dX12_pairs_25 : decode cX12_pairs 25 = .ok (.aload_n 0, 1) := by decide +kernel
theorem dX12_pairs_26 : decode cX12_pairs 26 = .ok (.getfield 37, 3) := by decide +kernel
theorem dX12_pairs_29 : decode cX12_pairs 29 = .ok (.iload_n 1, 1) := by decide +kernel
theorem dX12_pairs_30 : decode cX12_pairs 30 = .ok (.iaload, 1) := by decide +kernel
theorem dX12_pairs_31 : decode cX12_pairs 31 = .ok (.iconst 1, 1) := by decide +kernel
theorem dX12_pairs_32 : decode cX12_pairs 32 = .ok (.iload_n 1, 1) := by decide +kernel
theorem dX12_pairs_33 : decode cX12_pairs 33 = .ok (.ishl, 1) := by decide +kernel
theorem dX12_pairs_34 : decode cX12_pairs 34 = .ok (.iconst (-1), 1) := by decide +kernel
theorem dX12_pairs_35 : decode cX12_pairs 35 = .ok (.ixor, 1) := by decide +kernel
theorem dX12_pairs_36 : decode cX12_pairs 36 = .ok (.iand, 1) := by decide +kernel
theorem dX12_pairs_37 : decode cX12_pairs 37 = .ok (.ireturn, 1) := by decide +kernel
theorem dX12_areHandsSo_0 : decode cX12_areHandsSo 0 = .ok (.aload_n 0, 1) := by decide +kernel
theorem dX12_areHandsSo_1 : decode cX12_areHandsSo 1 = .ok (.aload_n 0, 1) := by decide +kernel
theorem dX12_areHandsSo_2 : decode cX12_areHandsSo 2 = .ok (.getfield 25, 3) := by decide +kernel
theorem dX12_areHandsSo_5 : decode cX12_areHandsSo 5 = .ok (.invokevirtual 249, 3) := by decide +kernel
theorem dX12_areHandsSo_8 : decode cX12_areHandsSo 8 = .ok (.istore_n 3, 1) := by decide +kernel
theorem dX12_areHandsSo_9 : decode cX12_areHandsSo 9 = .ok (.iload_n 3, 1) := by decide +kernel
theorem dX12_areHandsSo_10 : decode cX12_areHandsSo 10 = .ok (.ifCond .le 7, 3) := by decide +kernel
theorem dX12_areHandsSo_13 : decode cX12_areHandsSo 13 = .ok (.iconst 1, 1) := by decide +kernel
theorem dX12_areHandsSo_14 : decode cX12_areHandsSo 14 = .ok (.goto 4, 3) := by decide +kernel
theorem dX12_areHandsSo_17 : decode cX12_areHandsSo 17 = .ok (.iconst 0, 1) := by decide +kernel
theorem dX12_areHandsSo_18 : decode cX12_areHandsSo 18 = .ok (.istore 4, 2) := by decide +kernel
theorem dX12_areHandsSo_20 : decode cX12_areHandsSo 20 = .ok (.iconst 0, 1) := by decide +kernel
theorem dX12_areHandsSo_21 : decode cX12_areHandsSo 21 = .ok (.istore 5, 2) := by decide +kernel
theorem dX12_areHandsSo_23 : decode cX12_areHandsSo 23 = .ok (.iload 5, 2) := by decide +kernel
theorem dX12_areHandsSo_25 : decode cX12_areHandsSo 25 = .ok (.iload_n 2, 1) := by decide +kernel
theorem dX12_areHandsSo_26 : decode cX12_areHandsSo 26 = .ok (.if_icmp .ge 40, 3) := by decide +kernel
theorem dX12_areHandsSo_29 : decode cX12_areHandsSo 29 = .ok (.iload 4, 2) := by decide +kernel
theorem dX12_areHandsSo_31 : decode cX12_areHandsSo 31 = .ok (.ifCond .eq 26, 3) := by decide +kernel
theorem dX12_areHandsSo_34 : decode cX12_areHandsSo 34 = .ok (.aload_n 0, 1) := by decide +kernel
theorem dX12_areHandsSo_35 : decode cX12_areHandsSo 35 = .ok (.getfield 46, 3) := by decide +kernel
theorem dX12_areHandsSo_38 : decode cX12_areHandsSo 38 = .ok (.iload 5, 2) := by decide +kernel
theorem dX12_areHandsSo_40 : decode cX12_areHandsSo 40 = .ok (.iaload, 1) := by decide +kernel
theorem dX12_areHandsSo_41 : decode cX12_areHandsSo 41 = .ok (.aload_n 0, 1) := by decide +kernel
theorem dX12_areHandsSo_42 : decode cX12_areHandsSo 42 = .ok (.getfield 16, 3) := by decide +kernel
theorem dX12_areHandsSo_45 : decode cX12_areHandsSo 45 = .ok (.iload_n 1, 1) := by decide +kernel
theorem dX12_areHandsSo_46 : decode cX12_areHandsSo 46 = .ok (.iload 5, 2) := by decide +kernel
theorem dX12_areHandsSo_48 : decode cX12_areHandsSo 48 = .ok (.iadd, 1) := by decide +kernel
theorem dX12_areHandsSo_49 : decode cX12_areHandsSo 49 = .ok (.iaload, 1) := by decide +kernel
theorem dX12_areHandsSo_50 : decode cX12_areHandsSo 50 = .ok (.if_icmp .ne 7, 3) := by decide +kernel
theorem dX12_areHandsSo_53 : decode cX12_areHandsSo 53 = .ok (.iconst 1, 1) := by decide +kernel
theorem dX12_areHandsSo_54 : decode cX12_areHandsSo 54 = .ok (.goto 4, 3) := by decide +kernel
theorem dX12_areHandsSo_57 : decode cX12_areHandsSo 57 = .ok (.iconst 0, 1) := by decide +kernel
theorem dX12_areHandsSo_58 : decode cX12_areHandsSo 58 = .ok (.istore 4, 2) := by decide +kernel
theorem dX12_areHandsSo_60 : decode cX12_areHandsSo 60 = .ok (.iinc 5 1, 3) := by decide +kernel
theorem dX12_areHandsSo_63 : decode cX12_areHandsSo 63 = .ok (.goto (-40), 3) := by decide +kernel
theorem dX12_areHandsSo_66 : decode cX12_areHandsSo 66 = .ok (.iload 4, 2) := by decide +kernel
theorem dX12_areHandsSo_68 : decode cX12_areHandsSo 68 = .ok (.ireturn, 1) := by decide +kernel
theorem dX12_fitting_0 : decode cX12_fitting 0 = .ok (.iconst 0, 1) := by decide +kernel
theorem dX12_fitting_1 : decode cX12_fitting 1 = .ok (.istore 6, 2) := by decide +kernel
theorem dX12_fitting_3 : decode cX12_fitting 3 = .ok (.iload_n 2, 1) := by decide +kernel
theorem dX12_fitting_4 : decode cX12_fitting 4 = .ok (.istore 7, 2) := by decide +kernel
theorem dX12_fitting_6 : decode cX12_fitting 6 = .ok (.iload 7, 2) := by decide +kernel
theorem dX12_fitting_8 : decode cX12_fitting 8 = .ok (.iload_n 3, 1) := by decide +kernel
theorem dX12_fitting_9 : decode cX12_fitting 9 = .ok (.if_icmp .gt 45, 3) := by decide +kernel
theorem dX12_fitting_12 : decode cX12_fitting 12 = .ok (.aload_n 0, 1) := by decide +kernel
theorem dX12_fitting_13 : decode cX12_fitting 13 = .ok (.invokevirtual 308, 3) := by decide +kernel
theorem dX12_fitting_16 : decode cX12_fitting 16 = .ok (.aload_n 0, 1) := by decide +kernel
theorem dX12_fitting_17 : decode cX12_fitting 17 = .ok (.getfield 25, 3) := by decide +kernel
theorem dX12_fitting_20 : decode cX12_fitting 20 = .ok (.iload_n 1, 1) := by decide +kernel
theorem dX12_fitting_21 : decode cX12_fitting 21 = .ok (.iload 7, 2) := by decide +kernel
theorem dX12_fitting_23 : decode cX12_fitting 23 = .ok (.iastore, 1) := by decide +kernel
theorem dX12_fitting_24 : decode cX12_fitting 24 = .ok (.iload 6, 2) := by decide +kernel
theorem dX12_fitting_26 : decode cX12_fitting 26 = .ok (.aload_n 0, 1) := by decide +kernel
theorem dX12_fitting_27 : decode cX12_fitting 27 = .ok (.iload 4, 2) := by decide +kernel
theorem dX12_fitting_29 : decode cX12_fitting 29 = .ok (.iload 5, 2) := by decide +kernel
theorem dX12_fitting_31 : decode cX12_fitting 31 = .ok (.invokevirtual 313, 3) := by decide +kernel
theorem dX12_fitting_34 : decode cX12_fitting 34 = .ok (.ifCond .eq 10, 3) := by decide +kernel
theorem dX12_fitting_37 : decode cX12_fitting 37 = .ok (.iconst 1, 1) := by decide +kernel
theorem dX12_fitting_38 : decode cX12_fitting 38 = .ok (.iload 7, 2) := by decide +kernel
theorem dX12_fitting_40 : decode cX12_fitting 40 = .ok (.ishl, 1) := by decide +kernel
theorem dX12_fitting_41 : decode cX12_fitting 41 = .ok (.goto 4, 3) := by decide +kernel
theorem dX12_fitting_44 : decode cX12_fitting 44 = .ok (.iconst 0, 1) := by decide +kernel
theorem dX12_fitting_45 : decode cX12_fitting 45 = .ok (.ior, 1) := by decide +kernel
theorem dX12_fitting_46 : decode cX12_fitting 46 = .ok (.istore 6, 2) := by decide +kernel
theorem dX12_fitting_48 : decode cX12_fitting 48 = .ok (.iinc 7 1, 3) := by decide +kernel
theorem dX12_fitting_51 : decode cX12_fitting 51 = .ok (.goto (-45), 3) := by decide +kernel
theorem dX12_fitting_54 : decode cX12_fitting 54 = .ok (.iload 6, 2) := by decide +kernel
theorem dX12_fitting_56 : decode cX12_fitting 56 = .ok (.ireturn, 1) := by decide +kernel
theorem dX12_fittingLimits_0 : decode cX12_fittingLimits 0 = .ok (.iconst 0, 1) := by decide +kernel
theorem dX12_fittingLimits_1 : decode cX12_fittingLimits 1 = .ok (.istore 4, 2) := by decide +kernel
theorem dX12_fittingLimits_3 : decode cX12_fittingLimits 3 = .ok (.ldc 112, 2) := by decide +kernel
theorem dX12_fittingLimits_5 : decode cX12_fittingLimits 5 = .ok (.istore 5, 2) := by decide +kernel
theorem dX12_fittingLimits_7 : decode cX12_fittingLimits 7 = .ok (.aload_n 0, 1) := by decide +kernel
theorem dX12_fittingLimits_8 : decode cX12_fittingLimits 8 = .ok (.invokevirtual 308, 3) := by decide +kernel
theorem dX12_fittingLimits_11 : decode cX12_fittingLimits 11 = .ok (.iconst 0, 1) := by decide +kernel
theorem dX12_fittingLimits_12 : decode cX12_fittingLimits 12 = .ok (.istore 6, 2) := by decide +kernel
theorem dX12_fittingLimits_14 : decode cX12_fittingLimits 14 = .ok (.iload 6, 2) := by decide +kernel
theorem dX12_fittingLimits_16 : decode cX12_fittingLimits 16 = .ok (.bipush 60, 2) := by decide +kernel
theorem dX12_fittingLimits_18 : decode cX12_fittingLimits 18 = .ok (.if_icmp .gt 45, 3) := by decide +kernel
theorem dX12_fittingLimits_21 : decode cX12_fittingLimits 21 = .ok (.aload_n 0, 1) := by decide +kernel
theorem dX12_fittingLimits_22 : decode cX12_fittingLimits 22 = .ok (.getfield 25, 3) := by decide +kernel
theorem dX12_fittingLimits_25 : decode cX12_fittingLimits 25 = .ok (.iconst 1, 1) := by decide +kernel
theorem dX12_fittingLimits_26 : decode cX12_fittingLimits 26 = .ok (.iload 6, 2) := by decide +kernel
theorem dX12_fittingLimits_28 : decode cX12_fittingLimits 28 = .ok (.iastore, 1) := by decide +kernel
theorem dX12_fittingLimits_29 : decode cX12_fittingLimits 29 = .ok (.aload_n 0, 1) := by decide +kernel
theorem dX12_fittingLimits_30 : decode cX12_fittingLimits 30 = .ok (.iload_n 2, 1) := by decide +kernel
theorem dX12_fittingLimits_31 : decode cX12_fittingLimits 31 = .ok (.iload_n 3, 1) := by decide +kernel
theorem dX12_fittingLimits_32 : decode cX12_fittingLimits 32 = .ok (.invokevirtual 313, 3) := by decide +kernel
theorem dX12_fittingLimits_35 : decode cX12_fittingLimits 35 = .ok (.ifCond .eq 22, 3) := by decide +kernel
theorem dX12_fittingLimits_38 : decode cX12_fittingLimits 38 = .ok (.iinc 4 1, 3) := by decide +kernel
theorem dX12_fittingLimits_41 : decode cX12_fittingLimits 41 = .ok (.iload 5, 2) := by decide +kernel
theorem dX12_fittingLimits_43 : decode cX12_fittingLimits 43 = .ok (.ldc 112, 2) := by decide +kernel
theorem dX12_fittingLimits_45 : decode cX12_fittingLimits 45 = .ok (.if_icmp .ne 8, 3) := by decide +kernel
theorem dX12_fittingLimits_48 : decode cX12_fittingLimits 48 = .ok (.iload 6, 2) := by decide +kernel
theorem dX12_fittingLimits_50 : decode cX12_fittingLimits 50 = .ok (.goto 5, 3) := by decide +kernel
theorem dX12_fittingLimits_53 : decode cX12_fittingLimits 53 = .ok (.iload 5, 2) := by decide +kernel
theorem dX12_fittingLimits_55 : decode cX12_fittingLimits 55 = .ok (.istore 5, 2) := by decide +kernel
theorem dX12_fittingLimits_57 : decode cX12_fittingLimits 57 = .ok (.iinc 6 1, 3) := by decide +kernel
theorem dX12_fittingLimits_60 : decode cX12_fittingLimits 60 = .ok (.goto (-46), 3) := by decide +kernel
theorem dX12_fittingLimits_63 : decode cX12_fittingLimits 63 = .ok (.iload_n 1, 1) := by decide +kernel
theorem dX12_fittingLimits_64 : decode cX12_fittingLimits 64 = .ok (.ifCond .ne 8, 3) := by decide +kernel
theorem dX12_fittingLimits_67 : decode cX12_fittingLimits 67 = .ok (.iload 4, 2) := by decide +kernel
theorem dX12_fittingLimits_69 : decode cX12_fittingLimits 69 = .ok (.goto 5, 3) := by decide +kernel
theorem dX12_fittingLimits_72 : decode cX12_fittingLimits 72 = .ok (.iload 5, 2) := by decide +kernel
theorem dX12_fittingLimits_74 : decode cX12_fittingLimits 74 = .ok (.ireturn, 1) := by decide +kernel
theorem dX12_who_0 : decode cX12_who 0 = .ok (.aload_n 0, 1) := by decide +kernel
theorem dX12_who_1 : decode cX12_who 1 = .ok (.iload_n 1, 1) := by decide +kernel
theorem dX12_who_2 : decode cX12_who 2 = .ok (.invokevirtual 178, 3) := by decide +kernel
theorem dX12_who_5 : decode cX12_who 5 = .ok (.ifCond .eq 39, 3) := by decide +kernel
theorem dX12_who_8 : decode cX12_who 8 = .ok (.iload_n 2, 1) := by decide +kernel
theorem dX12_who_9 : decode cX12_who 9 = .ok (.i2l, 1) := by decide +kernel
theorem dX12_who_10 : decode cX12_who 10 = .ok (.lconst 0, 1) := by decide +kernel
theorem dX12_who_11 : decode cX12_who 11 = .ok (.ldc2_w 163, 3) := by decide +kernel
theorem dX12_who_14 : decode cX12_who 14 = .ok (.invokestatic 75, 3) := by decide +kernel
theorem dX12_who_17 : decode cX12_who 17 = .ok (.ifCond .eq 27, 3) := by decide +kernel
theorem dX12_who_20 : decode cX12_who 20 = .ok (.iload_n 3, 1) := by decide +kernel
theorem dX12_who_21 : decode cX12_who 21 = .ok (.invokestatic 79, 3) := by decide +kernel
theorem dX12_who_24 : decode cX12_who 24 = .ok (.ifCond .eq 20, 3) := by decide +kernel
theorem dX12_who_27 : decode cX12_who 27 = .ok (.iload 5, 2) := by decide +kernel
theorem dX12_who_29 : decode cX12_who 29 = .ok (.i2l, 1) := by decide +kernel
theorem dX12_who_30 : decode cX12_who 30 = .ok (.lconst 1, 1) := by decide +kernel
theorem dX12_who_31 : decode cX12_who 31 = .ok (.aload_n 0, 1) := by decide +kernel
theorem dX12_who_32 : decode cX12_who 32 = .ok (.getfield 19, 3) := by decide +kernel
theorem dX12_who_35 : decode cX12_who 35 = .ok (.iconst 0, 1) := by decide +kernel
theorem dX12_who_36 : decode cX12_who 36 = .ok (.iaload, 1) := by decide +kernel
theorem dX12_who_37 : decode cX12_who 37 = .ok (.i2l, 1) := by decide +kernel
theorem dX12_who_38 : decode cX12_who 38 = .ok (.invokestatic 75, 3) := by decide +kernel
theorem dX12_who_41 : decode cX12_who 41 = .ok (.ifCond .ne 6, 3) := by decide +kernel
theorem dX12_who_44 : decode cX12_who 44 = .ok (.ldc 85, 2) := by decide +kernel
theorem dX12_who_46 : decode cX12_who 46 = .ok (.ireturn, 1) := by decide +kernel
theorem dX12_who_47 : decode cX12_who 47 = .ok (.aload_n 0, 1) := by decide +kernel
theorem dX12_who_48 : decode cX12_who 48 = .ok (.iconst 0, 1) := by decide +kernel
theorem dX12_who_49 : decode cX12_who 49 = .ok (.putfield 68, 3) := by decide +kernel
theorem dX12_who_52 : decode cX12_who 52 = .ok (.aload_n 0, 1) := by decide +kernel
theorem dX12_who_53 : decode cX12_who 53 = .ok (.getfield 7, 3) := by decide +kernel
theorem dX12_who_56 : decode cX12_who 56 = .ok (.iload_n 3, 1) := by decide +kernel
theorem dX12_who_57 : decode cX12_who 57 = .ok (.iaload, 1) := by decide +kernel
theorem dX12_who_58 : decode cX12_who 58 = .ok (.ifCond .ge 9, 3) := by decide +kernel
theorem dX12_who_61 : decode cX12_who 61 = .ok (.aload_n 0, 1) := by decide +kernel
theorem dX12_who_62 : decode cX12_who 62 = .ok (.iconst 1, 1) := by decide +kernel
theorem dX12_who_63 : decode cX12_who 63 = .ok (.invokevirtual 86, 3) := by decide +kernel
theorem dX12_who_66 : decode cX12_who 66 = .ok (.ireturn, 1) := by decide +kernel
theorem dX12_who_67 : decode cX12_who 67 = .ok (.iload 4, 2) := by decide +kernel
theorem dX12_who_69 : decode cX12_who 69 = .ok (.ifCond .lt 21, 3) := by decide +kernel
theorem dX12_who_72 : decode cX12_who 72 = .ok (.iload 4, 2) := by decide +kernel
theorem dX12_who_74 : decode cX12_who 74 = .ok (.i2l, 1) := by decide +kernel
theorem dX12_who_75 : decode cX12_who 75 = .ok (.iload 5, 2) := by decide +kernel
theorem dX12_who_77 : decode cX12_who 77 = .ok (.i2l, 1) := by decide +kernel
theorem dX12_who_78 : decode cX12_who 78 = .ok (.ladd, 1) := by decide +kernel
theorem dX12_who_79 : decode cX12_who 79 = .ok (.aload_n 0, 1) := by decide +kernel
theorem dX12_who_80 : decode cX12_who 80 = .ok (.getfield 13, 3) := by decide +kernel
theorem dX12_who_83 : decode cX12_who 83 = .ok (.iload_n 3, 1) := by decide +kernel
theorem dX12_who_84 : decode cX12_who 84 = .ok (.iaload, 1) := by decide +kernel
theorem dX12_who_85 : decode cX12_who 85 = .ok (.i2l, 1) := by decide +kernel
theorem dX12_who_86 : decode cX12_who 86 = .ok (.lcmp, 1) := by decide +kernel
theorem dX12_who_87 : decode cX12_who 87 = .ok (.ifCond .le 9, 3) := by decide +kernel
theorem dX12_who_90 : decode cX12_who 90 = .ok (.aload_n 0, 1) := by decide +kernel
theorem dX12_who_91 : decode cX12_who 91 = .ok (.iconst 2, 1) := by decide +kernel
theorem dX12_who_92 : decode cX12_who 92 = .ok (.invokevirtual 86, 3) := by decide +kernel
theorem dX12_who_95 : decode cX12_who 95 = .ok (.ireturn, 1) := by decide +kernel
theorem dX12_who_96 : decode cX12_who 96 = .ok (.bipush 40, 2) := by decide +kernel
theorem dX12_who_98 : decode cX12_who 98 = .ok (.iload_n 3, 1) := by decide +kernel
theorem dX12_who_99 : decode cX12_who 99 = .ok (.imul, 1) := by decide +kernel
theorem dX12_who_100 : decode cX12_who 100 = .ok (.iload 4, 2) := by decide +kernel
theorem dX12_who_102 : decode cX12_who 102 = .ok (.iadd, 1) := by decide +kernel
theorem dX12_who_103 : decode cX12_who 103 = .ok (.istore 6, 2) := by decide +kernel
theorem dX12_who_105 : decode cX12_who 105 = .ok (.iconst 3, 1) := by decide +kernel
theorem dX12_who_106 : decode cX12_who 106 = .ok (.iconst 4, 1) := by decide +kernel
theorem dX12_who_107 : decode cX12_who 107 = .ok (.iload_n 1, 1) := by decide +kernel
theorem dX12_who_108 : decode cX12_who 108 = .ok (.imul, 1) := by decide +kernel
theorem dX12_who_109 : decode cX12_who 109 = .ok (.iadd, 1) := by decide +kernel
theorem dX12_who_110 : decode cX12_who 110 = .ok (.istore 7, 2) := by decide +kernel
theorem dX12_who_112 : decode cX12_who 112 = .ok (.iload_n 2, 1) := by decide +kernel
theorem dX12_who_113 : decode cX12_who 113 = .ok (.iconst 2, 1) := by decide +kernel
theorem dX12_who_114 : decode cX12_who 114 = .ok (.if_icmp .ge 15, 3) := by decide +kernel
theorem dX12_who_117 : decode cX12_who 117 = .ok (.aload_n 0, 1) := by decide +kernel
theorem dX12_who_118 : decode cX12_who 118 = .ok (.iload_n 2, 1) := by decide +kernel
theorem dX12_who_119 : decode cX12_who 119 = .ok (.iload 6, 2) := by decide +kernel
theorem dX12_who_121 : decode cX12_who 121 = .ok (.iload 5, 2) := by decide +kernel
theorem dX12_who_123 : decode cX12_who 123 = .ok (.invokevirtual 316, 3) := by decide +kernel
theorem dX12_who_126 : decode cX12_who 126 = .ok (.goto 40, 3) := by decide +kernel
theorem dX12_who_129 : decode cX12_who 129 = .ok (.iload_n 2, 1) := by decide +kernel
theorem dX12_who_130 : decode cX12_who 130 = .ok (.iconst 2, 1) := by decide +kernel
theorem dX12_who_131 : decode cX12_who 131 = .ok (.if_icmp .ne 18, 3) := by decide +kernel
theorem dX12_who_134 : decode cX12_who 134 = .ok (.aload_n 0, 1) := by decide +kernel
theorem dX12_who_135 : decode cX12_who 135 = .ok (.iload 7, 2) := by decide +kernel
theorem dX12_who_137 : decode cX12_who 137 = .ok (.iconst 1, 1) := by decide +kernel
theorem dX12_who_138 : decode cX12_who 138 = .ok (.iconst 5, 1) := by decide +kernel
theorem dX12_who_139 : decode cX12_who 139 = .ok (.iload 6, 2) := by decide +kernel
theorem dX12_who_141 : decode cX12_who 141 = .ok (.iload 5, 2) := by decide +kernel
theorem dX12_who_143 : decode cX12_who 143 = .ok (.invokevirtual 320, 3) := by decide +kernel
theorem dX12_who_146 : decode cX12_who 146 = .ok (.goto 20, 3) := by decide +kernel
theorem dX12_who_149 : decode cX12_who 149 = .ok (.aload_n 0, 1) := by decide +kernel
theorem dX12_who_150 : decode cX12_who 150 = .ok (.iload 7, 2) := by decide +kernel
theorem dX12_who_152 : decode cX12_who 152 = .ok (.iload_n 2, 1) := by decide +kernel
theorem dX12_who_153 : decode cX12_who 153 = .ok (.iadd, 1) := by decide +kernel
theorem dX12_who_154 : decode cX12_who 154 = .ok (.iconst 2, 1) := by decide +kernel
theorem dX12_who_155 : decode cX12_who 155 = .ok (.isub, 1) := by decide +kernel
theorem dX12_who_156 : decode cX12_who 156 = .ok (.iconst 0, 1) := by decide +kernel
theorem dX12_who_157 : decode cX12_who 157 = .ok (.bipush 30, 2) := by decide +kernel
theorem dX12_who_159 : decode cX12_who 159 = .ok (.iload 6, 2) := by decide +kernel
theorem dX12_who_161 : decode cX12_who 161 = .ok (.iload 5, 2) := by decide +kernel
theorem dX12_who_163 : decode cX12_who 163 = .ok (.invokevirtual 320, 3) := by decide +kernel
theorem dX12_who_166 : decode cX12_who 166 = .ok (.ireturn, 1) := by decide +kernel
theorem dX12_lost_0 : decode cX12_lost 0 = .ok (.aload_n 0, 1) := by decide +kernel
theorem dX12_lost_1 : decode cX12_lost 1 = .ok (.invokevirtual 159, 3) := by decide +kernel
theorem dX12_lost_4 : decode cX12_lost 4 = .ok (.ifCond .ne 7, 3) := by decide +kernel
theorem dX12_lost_7 : decode cX12_lost 7 = .ok (.ldc2_w 324, 3) := by decide +kernel
theorem dX12_lost_10 : decode cX12_lost 10 = .ok (.lreturn, 1) := by decide +kernel
theorem dX12_lost_11 : decode cX12_lost 11 = .ok (.iload_n 1, 1) := by decide +kernel
theorem dX12_lost_12 : decode cX12_lost 12 = .ok (.i2l, 1) := by decide +kernel
theorem dX12_lost_13 : decode cX12_lost 13 = .ok (.lconst 0, 1) := by decide +kernel
theorem dX12_lost_14 : decode cX12_lost 14 = .ok (.ldc2_w 311, 3) := by decide +kernel
theorem dX12_lost_17 : decode cX12_lost 17 = .ok (.invokestatic 75, 3) := by decide +kernel
theorem dX12_lost_20 : decode cX12_lost 20 = .ok (.ifCond .eq 25, 3) := by decide +kernel
theorem dX12_lost_23 : decode cX12_lost 23 = .ok (.iload_n 2, 1) := by decide +kernel
theorem dX12_lost_24 : decode cX12_lost 24 = .ok (.i2l, 1) := by decide +kernel
theorem dX12_lost_25 : decode cX12_lost 25 = .ok (.lconst 0, 1) := by decide +kernel
theorem dX12_lost_26 : decode cX12_lost 26 = .ok (.ldc2_w 311, 3) := by decide +kernel
theorem dX12_lost_29 : decode cX12_lost 29 = .ok (.invokestatic 75, 3) := by decide +kernel
theorem dX12_lost_32 : decode cX12_lost 32 = .ok (.ifCond .eq 13, 3) := by decide +kernel
theorem dX12_lost_35 : decode cX12_lost 35 = .ok (.iload_n 3, 1) := by decide +kernel
theorem dX12_lost_36 : decode cX12_lost 36 = .ok (.i2l, 1) := by decide +kernel
theorem dX12_lost_37 : decode cX12_lost 37 = .ok (.lconst 0, 1) := by decide +kernel
theorem dX12_lost_38 : decode cX12_lost 38 = .ok (.lconst 1, 1) := by decide +kernel
theorem dX12_lost_39 : decode cX12_lost 39 = .ok (.invokestatic 75, 3) := by decide +kernel
theorem dX12_lost_42 : decode cX12_lost 42 = .ok (.ifCond .ne 7, 3) := by decide +kernel
theorem dX12_lost_45 : decode cX12_lost 45 = .ok (.ldc2_w 326, 3) := by decide +kernel
theorem dX12_lost_48 : decode cX12_lost 48 = .ok (.lreturn, 1) := by decide +kernel
theorem dX12_lost_49 : decode cX12_lost 49 = .ok (.aload_n 0, 1) := by decide +kernel
theorem dX12_lost_50 : decode cX12_lost 50 = .ok (.aload_n 0, 1) := by decide +kernel
theorem dX12_lost_51 : decode cX12_lost 51 = .ok (.getfield 19, 3) := by decide +kernel
theorem dX12_lost_54 : decode cX12_lost 54 = .ok (.aload_n 0, 1) := by decide +kernel
theorem dX12_lost_55 : decode cX12_lost 55 = .ok (.getfield 19, 3) := by decide +kernel
theorem dX12_lost_58 : decode cX12_lost 58 = .ok (.iconst 1, 1) := by decide +kernel
theorem dX12_lost_59 : decode cX12_lost 59 = .ok (.iaload, 1) := by decide +kernel
theorem dX12_lost_60 : decode cX12_lost 60 = .ok (.invokevirtual 236, 3) := by decide +kernel
theorem dX12_lost_63 : decode cX12_lost 63 = .ok (.lconst 0, 1) := by decide +kernel
theorem dX12_lost_64 : decode cX12_lost 64 = .ok (.lstore 4, 2) := by decide +kernel
theorem dX12_lost_66 : decode cX12_lost 66 = .ok (.lconst 0, 1) := by decide +kernel
theorem dX12_lost_67 : decode cX12_lost 67 = .ok (.lstore 6, 2) := by decide +kernel
theorem dX12_lost_69 : decode cX12_lost 69 = .ok (.iconst 0, 1) := by decide +kernel
theorem dX12_lost_70 : decode cX12_lost 70 = .ok (.istore 8, 2) := by decide +kernel
theorem dX12_lost_72 : decode cX12_lost 72 = .ok (.iload 8, 2) := by decide +kernel
theorem dX12_lost_74 : decode cX12_lost 74 = .ok (.aload_n 0, 1) := by decide +kernel
theorem dX12_lost_75 : decode cX12_lost 75 = .ok (.getfield 19, 3) := by decide +kernel
theorem dX12_lost_78 : decode cX12_lost 78 = .ok (.invokestatic 204, 3) := by decide +kernel
theorem dX12_lost_81 : decode cX12_lost 81 = .ok (.if_icmp .gt 114, 3) := by decide +kernel
theorem dX12_lost_84 : decode cX12_lost 84 = .ok (.lconst 1, 1) := by decide +kernel
theorem dX12_lost_85 : decode cX12_lost 85 = .ok (.lstore 9, 2) := by decide +kernel
theorem dX12_lost_87 : decode cX12_lost 87 = .ok (.iconst 0, 1) := by decide +kernel
theorem dX12_lost_88 : decode cX12_lost 88 = .ok (.istore 11, 2) := by decide +kernel
theorem dX12_lost_90 : decode cX12_lost 90 = .ok (.iload 11, 2) := by decide +kernel
theorem dX12_lost_92 : decode cX12_lost 92 = .ok (.aload_n 0, 1) := by decide +kernel
theorem dX12_lost_93 : decode cX12_lost 93 = .ok (.getfield 19, 3) := by decide +kernel
theorem dX12_lost_96 : decode cX12_lost 96 = .ok (.iconst 0, 1) := by decide +kernel
theorem dX12_lost_97 : decode cX12_lost 97 = .ok (.iaload, 1) := by decide +kernel
theorem dX12_lost_98 : decode cX12_lost 98 = .ok (.if_icmp .ge 34, 3) := by decide +kernel
theorem dX12_lost_101 : decode cX12_lost 101 = .ok (.lload 9, 2) := by decide +kernel
theorem dX12_lost_103 : decode cX12_lost 103 = .ok (.iload 8, 2) := by decide +kernel
theorem dX12_lost_105 : decode cX12_lost 105 = .ok (.iload 11, 2) := by decide +kernel
theorem dX12_lost_107 : decode cX12_lost 107 = .ok (.invokestatic 90, 3) := by decide +kernel
theorem dX12_lost_110 : decode cX12_lost 110 = .ok (.ifCond .eq 11, 3) := by decide +kernel
theorem dX12_lost_113 : decode cX12_lost 113 = .ok (.bipush 10, 2) := by decide +kernel
theorem dX12_lost_115 : decode cX12_lost 115 = .ok (.iload_n 2, 1) := by decide +kernel
theorem dX12_lost_116 : decode cX12_lost 116 = .ok (.isub, 1) := by decide +kernel
theorem dX12_lost_117 : decode cX12_lost 117 = .ok (.i2l, 1) := by decide +kernel
theorem dX12_lost_118 : decode cX12_lost 118 = .ok (.goto 5, 3) := by decide +kernel
theorem dX12_lost_121 : decode cX12_lost 121 = .ok (.iload_n 2, 1) := by decide +kernel
theorem dX12_lost_122 : decode cX12_lost 122 = .ok (.i2l, 1) := by decide +kernel
theorem dX12_lost_123 : decode cX12_lost 123 = .ok (.lmul, 1) := by decide +kernel
theorem dX12_lost_124 : decode cX12_lost 124 = .ok (.lstore 9, 2) := by decide +kernel
theorem dX12_lost_126 : decode cX12_lost 126 = .ok (.iinc 11 1, 3) := by decide +kernel
theorem dX12_lost_129 : decode cX12_lost 129 = .ok (.goto (-39), 3) := by decide +kernel
theorem dX12_lost_132 : decode cX12_lost 132 = .ok (.lload 6, 2) := by decide +kernel
theorem dX12_lost_134 : decode cX12_lost 134 = .ok (.lload 9, 2) := by decide +kernel
theorem dX12_lost_136 : decode cX12_lost 136 = .ok (.ladd, 1) := by decide +kernel
theorem dX12_lost_137 : decode cX12_lost 137 = .ok (.lstore 6, 2) := by decide +kernel
theorem dX12_lost_139 : decode cX12_lost 139 = .ok (.iload 8, 2) := by decide +kernel
theorem dX12_lost_141 : decode cX12_lost 141 = .ok (.ifCond .eq 25, 3) := by decide +kernel
theorem dX12_lost_144 : decode cX12_lost 144 = .ok (.iload_n 1, 1) := by decide +kernel
theorem dX12_lost_145 : decode cX12_lost 145 = .ok (.ifCond .le 25, 3) := by decide +kernel
theorem dX12_lost_148 : decode cX12_lost 148 = .ok (.lload 9, 2) := by decide +kernel
theorem dX12_lost_150 : decode cX12_lost 150 = .ok (.lconst 0, 1) := by decide +kernel
theorem dX12_lost_151 : decode cX12_lost 151 = .ok (.lcmp, 1) := by decide +kernel
theorem dX12_lost_152 : decode cX12_lost 152 = .ok (.ifCond .le 18, 3) := by decide +kernel
theorem dX12_lost_155 : decode cX12_lost 155 = .ok (.aload_n 0, 1) := by decide +kernel
theorem dX12_lost_156 : decode cX12_lost 156 = .ok (.iload 8, 2) := by decide +kernel
theorem dX12_lost_158 : decode cX12_lost 158 = .ok (.iload_n 1, 1) := by decide +kernel
theorem dX12_lost_159 : decode cX12_lost 159 = .ok (.iconst 0, 1) := by decide +kernel
theorem dX12_lost_160 : decode cX12_lost 160 = .ok (.invokevirtual 239, 3) := by decide +kernel
theorem dX12_lost_163 : decode cX12_lost 163 = .ok (.ifCond .eq 7, 3) := by decide +kernel
theorem dX12_lost_166 : decode cX12_lost 166 = .ok (.iconst 1, 1) := by decide +kernel
theorem dX12_lost_167 : decode cX12_lost 167 = .ok (.goto 4, 3) := by decide +kernel
theorem dX12_lost_170 : decode cX12_lost 170 = .ok (.iconst 0, 1) := by decide +kernel
theorem dX12_lost_171 : decode cX12_lost 171 = .ok (.istore 11, 2) := by decide +kernel
theorem dX12_lost_173 : decode cX12_lost 173 = .ok (.lload 4, 2) := by decide +kernel
theorem dX12_lost_175 : decode cX12_lost 175 = .ok (.iload 11, 2) := by decide +kernel
theorem dX12_lost_177 : decode cX12_lost 177 = .ok (.ifCond .eq 8, 3) := by decide +kernel
theorem dX12_lost_180 : decode cX12_lost 180 = .ok (.lload 9, 2) := by decide +kernel
theorem dX12_lost_182 : decode cX12_lost 182 = .ok (.goto 4, 3) := by decide +kernel
theorem dX12_lost_185 : decode cX12_lost 185 = .ok (.lconst 0, 1) := by decide +kernel
theorem dX12_lost_186 : decode cX12_lost 186 = .ok (.ladd, 1) := by decide +kernel
theorem dX12_lost_187 : decode cX12_lost 187 = .ok (.lstore 4, 2) := by decide +kernel
theorem dX12_lost_189 : decode cX12_lost 189 = .ok (.iinc 8 1, 3) := by decide +kernel
theorem dX12_lost_192 : decode cX12_lost 192 = .ok (.goto (-120), 3) := by decide +kernel
theorem dX12_lost_195 : decode cX12_lost 195 = .ok (.lload 4, 2) := by decide +kernel
theorem dX12_lost_197 : decode cX12_lost 197 = .ok (.lstore 8, 2) := by decide +kernel
theorem dX12_lost_199 : decode cX12_lost 199 = .ok (.lload 6, 2) := by decide +kernel
theorem dX12_lost_201 : decode cX12_lost 201 = .ok (.lstore 10, 2) := by decide +kernel
theorem dX12_lost_203 : decode cX12_lost 203 = .ok (.lload 10, 2) := by decide +kernel
theorem dX12_lost_205 : decode cX12_lost 205 = .ok (.lconst 0, 1) := by decide +kernel
theorem dX12_lost_206 : decode cX12_lost 206 = .ok (.lcmp, 1) := by decide +kernel
theorem dX12_lost_207 : decode cX12_lost 207 = .ok (.ifCond .eq 21, 3) := by decide +kernel
theorem dX12_lost_210 : decode cX12_lost 210 = .ok (.lload 8, 2) := by decide +kernel
theorem dX12_lost_212 : decode cX12_lost 212 = .ok (.lload 10, 2) := by decide +kernel
theorem dX12_lost_214 : decode cX12_lost 214 = .ok (.lrem, 1) := by decide +kernel
theorem dX12_lost_215 : decode cX12_lost 215 = .ok (.lstore 12, 2) := by decide +kernel
theorem dX12_lost_217 : decode cX12_lost 217 = .ok (.lload 10, 2) := by decide +kernel
theorem dX12_lost_219 : decode cX12_lost 219 = .ok (.lstore 8, 2) := by decide +kernel
theorem dX12_lost_221 : decode cX12_lost 221 = .ok (.lload 12, 2) := by decide +kernel
theorem dX12_lost_223 : decode cX12_lost 223 = .ok (.lstore 10, 2) := by decide +kernel
theorem dX12_lost_225 : decode cX12_lost 225 = .ok (.goto (-22), 3) := by decide +kernel
theorem dX12_lost_228 : decode cX12_lost 228 = .ok (.iload_n 3, 1) := by decide +kernel
theorem dX12_lost_229 : decode cX12_lost 229 = .ok (.ifCond .ne 8, 3) := by decide +kernel
theorem dX12_lost_232 : decode cX12_lost 232 = .ok (.lload 4, 2) := by decide +kernel
theorem dX12_lost_234 : decode cX12_lost 234 = .ok (.goto 5, 3) := by decide +kernel
theorem dX12_lost_237 : decode cX12_lost 237 = .ok (.lload 6, 2) := by decide +kernel
theorem dX12_lost_239 : decode cX12_lost 239 = .ok (.lload 8, 2) := by decide +kernel
theorem dX12_lost_241 : decode cX12_lost 241 = .ok (.ldiv, 1) := by decide +kernel
theorem dX12_lost_242 : decode cX12_lost 242 = .ok (.lreturn, 1) := by decide +kernel
theorem dX12_drawn_0 : decode cX12_drawn 0 = .ok (.aload_n 0, 1) := by decide +kernel
theorem dX12_drawn_1 : decode cX12_drawn 1 = .ok (.invokevirtual 159, 3) := by decide +kernel
theorem dX12_drawn_4 : decode cX12_drawn 4 = .ok (.ifCond .ne 6, 3) := by decide +kernel
theorem dX12_drawn_7 : decode cX12_drawn 7 = .ok (.ldc 158, 2) := by decide +kernel
theorem dX12_drawn_9 : decode cX12_drawn 9 = .ok (.ireturn, 1) := by decide +kernel
theorem dX12_drawn_10 : decode cX12_drawn 10 = .ok (.iload_n 1, 1) := by decide +kernel
theorem dX12_drawn_11 : decode cX12_drawn 11 = .ok (.i2l, 1) := by decide +kernel
theorem dX12_drawn_12 : decode cX12_drawn 12 = .ok (.lconst 0, 1) := by decide +kernel
theorem dX12_drawn_13 : decode cX12_drawn 13 = .ok (.ldc2_w 190, 3) := by decide +kernel
theorem dX12_drawn_16 : decode cX12_drawn 16 = .ok (.invokestatic 75, 3) := by decide +kernel
theorem dX12_drawn_19 : decode cX12_drawn 19 = .ok (.ifCond .eq 25, 3) := by decide +kernel
theorem dX12_drawn_22 : decode cX12_drawn 22 = .ok (.iload_n 2, 1) := by decide +kernel
theorem dX12_drawn_23 : decode cX12_drawn 23 = .ok (.i2l, 1) := by decide +kernel
theorem dX12_drawn_24 : decode cX12_drawn 24 = .ok (.lconst 1, 1) := by decide +kernel
theorem dX12_drawn_25 : decode cX12_drawn 25 = .ok (.ldc2_w 328, 3) := by decide +kernel
theorem dX12_drawn_28 : decode cX12_drawn 28 = .ok (.invokestatic 75, 3) := by decide +kernel
theorem dX12_drawn_31 : decode cX12_drawn 31 = .ok (.ifCond .eq 13, 3) := by decide +kernel
theorem dX12_drawn_34 : decode cX12_drawn 34 = .ok (.iload_n 3, 1) := by decide +kernel
theorem dX12_drawn_35 : decode cX12_drawn 35 = .ok (.i2l, 1) := by decide +kernel
theorem dX12_drawn_36 : decode cX12_drawn 36 = .ok (.lconst 0, 1) := by decide +kernel
theorem dX12_drawn_37 : decode cX12_drawn 37 = .ok (.lconst 1, 1) := by decide +kernel
theorem dX12_drawn_38 : decode cX12_drawn 38 = .ok (.invokestatic 75, 3) := by decide +kernel
theorem dX12_drawn_41 : decode cX12_drawn 41 = .ok (.ifCond .ne 6, 3) := by decide +kernel
theorem dX12_drawn_44 : decode cX12_drawn 44 = .ok (.ldc 85, 2) := by decide +kernel
theorem dX12_drawn_46 : decode cX12_drawn 46 = .ok (.ireturn, 1) := by decide +kernel
theorem dX12_drawn_47 : decode cX12_drawn 47 = .ok (.aload_n 0, 1) := by decide +kernel
theorem dX12_drawn_48 : decode cX12_drawn 48 = .ok (.invokevirtual 308, 3) := by decide +kernel
theorem dX12_drawn_51 : decode cX12_drawn 51 = .ok (.iload_n 2, 1) := by decide +kernel
theorem dX12_drawn_52 : decode cX12_drawn 52 = .ok (.i2l, 1) := by decide +kernel
theorem dX12_drawn_53 : decode cX12_drawn 53 = .ok (.lstore 4, 2) := by decide +kernel
theorem dX12_drawn_55 : decode cX12_drawn 55 = .ok (.iconst 0, 1) := by decide +kernel
theorem dX12_drawn_56 : decode cX12_drawn 56 = .ok (.istore 6, 2) := by decide +kernel
theorem dX12_drawn_58 : decode cX12_drawn 58 = .ok (.iconst 0, 1) := by decide +kernel
theorem dX12_drawn_59 : decode cX12_drawn 59 = .ok (.istore 7, 2) := by decide +kernel
theorem dX12_drawn_61 : decode cX12_drawn 61 = .ok (.iload 7, 2) := by decide +kernel
theorem dX12_drawn_63 : decode cX12_drawn 63 = .ok (.iload_n 1, 1) := by decide +kernel
theorem dX12_drawn_64 : decode cX12_drawn 64 = .ok (.if_icmp .ge 87, 3) := by decide +kernel
theorem dX12_drawn_67 : decode cX12_drawn 67 = .ok (.lload 4, 2) := by decide +kernel
theorem dX12_drawn_69 : decode cX12_drawn 69 = .ok (.ldc2_w 330, 3) := by decide +kernel
theorem dX12_drawn_72 : decode cX12_drawn 72 = .ok (.lmul, 1) := by decide +kernel
theorem dX12_drawn_73 : decode cX12_drawn 73 = .ok (.ldc2_w 332, 3) := by decide +kernel
theorem dX12_drawn_76 : decode cX12_drawn 76 = .ok (.lrem, 1) := by decide +kernel
theorem dX12_drawn_77 : decode cX12_drawn 77 = .ok (.lstore 4, 2) := by decide +kernel
theorem dX12_drawn_79 : decode cX12_drawn 79 = .ok (.lload 4, 2) := by decide +kernel
theorem dX12_drawn_81 : decode cX12_drawn 81 = .ok (.aload_n 0, 1) := by decide +kernel
theorem dX12_drawn_82 : decode cX12_drawn 82 = .ok (.getfield 25, 3) := by decide +kernel
theorem dX12_drawn_85 : decode cX12_drawn 85 = .ok (.iconst 0, 1) := by decide +kernel
theorem dX12_drawn_86 : decode cX12_drawn 86 = .ok (.iaload, 1) := by decide +kernel
theorem dX12_drawn_87 : decode cX12_drawn 87 = .ok (.i2l, 1) := by decide +kernel
theorem dX12_drawn_88 : decode cX12_drawn 88 = .ok (.lrem, 1) := by decide +kernel
theorem dX12_drawn_89 : decode cX12_drawn 89 = .ok (.l2i, 1) := by decide +kernel
theorem dX12_drawn_90 : decode cX12_drawn 90 = .ok (.istore 8, 2) := by decide +kernel
theorem dX12_drawn_92 : decode cX12_drawn 92 = .ok (.lload 4, 2) := by decide +kernel
theorem dX12_drawn_94 : decode cX12_drawn 94 = .ok (.ldc2_w 334, 3) := by decide +kernel
theorem dX12_drawn_97 : decode cX12_drawn 97 = .ok (.ldiv, 1) := by decide +kernel
theorem dX12_drawn_98 : decode cX12_drawn 98 = .ok (.ldc2_w 336, 3) := by decide +kernel
theorem dX12_drawn_101 : decode cX12_drawn 101 = .ok (.lrem, 1) := by decide +kernel
theorem dX12_drawn_102 : decode cX12_drawn 102 = .ok (.l2i, 1) := by decide +kernel
theorem dX12_drawn_103 : decode cX12_drawn 103 = .ok (.istore 9, 2) := by decide +kernel
theorem dX12_drawn_105 : decode cX12_drawn 105 = .ok (.aload_n 0, 1) := by decide +kernel
theorem dX12_drawn_106 : decode cX12_drawn 106 = .ok (.getfield 25, 3) := by decide +kernel
theorem dX12_drawn_109 : decode cX12_drawn 109 = .ok (.iconst 3, 1) := by decide +kernel
theorem dX12_drawn_110 : decode cX12_drawn 110 = .ok (.iconst 4, 1) := by decide +kernel
theorem dX12_drawn_111 : decode cX12_drawn 111 = .ok (.iload 8, 2) := by decide +kernel
theorem dX12_drawn_113 : decode cX12_drawn 113 = .ok (.imul, 1) := by decide +kernel
theorem dX12_drawn_114 : decode cX12_drawn 114 = .ok (.iadd, 1) := by decide +kernel
theorem dX12_drawn_115 : decode cX12_drawn 115 = .ok (.iconst 1, 1) := by decide +kernel
theorem dX12_drawn_116 : decode cX12_drawn 116 = .ok (.iadd, 1) := by decide +kernel
theorem dX12_drawn_117 : decode cX12_drawn 117 = .ok (.iload 9, 2) := by decide +kernel
theorem dX12_drawn_119 : decode cX12_drawn 119 = .ok (.iadd, 1) := by decide +kernel
theorem dX12_drawn_120 : decode cX12_drawn 120 = .ok (.lload 4, 2) := by decide +kernel
theorem dX12_drawn_122 : decode cX12_drawn 122 = .ok (.ldc2_w 338, 3) := by decide +kernel
theorem dX12_drawn_125 : decode cX12_drawn 125 = .ok (.ldiv, 1) := by decide +kernel
theorem dX12_drawn_126 : decode cX12_drawn 126 = .ok (.ldc2_w 340, 3) := by decide +kernel
theorem dX12_drawn_129 : decode cX12_drawn 129 = .ok (.lrem, 1) := by decide +kernel
theorem dX12_drawn_130 : decode cX12_drawn 130 = .ok (.l2i, 1) := by decide +kernel
theorem dX12_drawn_131 : decode cX12_drawn 131 = .ok (.iastore, 1) := by decide +kernel
theorem dX12_drawn_132 : decode cX12_drawn 132 = .ok (.iload 6, 2) := by decide +kernel
theorem dX12_drawn_134 : decode cX12_drawn 134 = .ok (.aload_n 0, 1) := by decide +kernel
theorem dX12_drawn_135 : decode cX12_drawn 135 = .ok (.aload_n 0, 1) := by decide +kernel
theorem dX12_drawn_136 : decode cX12_drawn 136 = .ok (.getfield 25, 3) := by decide +kernel
theorem dX12_drawn_139 : decode cX12_drawn 139 = .ok (.invokevirtual 249, 3) := by decide +kernel
theorem dX12_drawn_142 : decode cX12_drawn 142 = .ok (.iadd, 1) := by decide +kernel
theorem dX12_drawn_143 : decode cX12_drawn 143 = .ok (.istore 6, 2) := by decide +kernel
theorem dX12_drawn_145 : decode cX12_drawn 145 = .ok (.iinc 7 1, 3) := by decide +kernel
theorem dX12_drawn_148 : decode cX12_drawn 148 = .ok (.goto (-87), 3) := by decide +kernel
theorem dX12_drawn_151 : decode cX12_drawn 151 = .ok (.iload_n 3, 1) := by decide +kernel
theorem dX12_drawn_152 : decode cX12_drawn 152 = .ok (.ifCond .ne 8, 3) := by decide +kernel
theorem dX12_drawn_155 : decode cX12_drawn 155 = .ok (.iload 6, 2) := by decide +kernel
theorem dX12_drawn_157 : decode cX12_drawn 157 = .ok (.goto 17, 3) := by decide +kernel
theorem dX12_drawn_160 : decode cX12_drawn 160 = .ok (.aload_n 0, 1) := by decide +kernel
theorem dX12_drawn_161 : decode cX12_drawn 161 = .ok (.getfield 25, 3) := by decide +kernel
theorem dX12_drawn_164 : decode cX12_drawn 164 = .ok (.aload_n 0, 1) := by decide +kernel
theorem dX12_drawn_165 : decode cX12_drawn 165 = .ok (.getfield 25, 3) := by decide +kernel
theorem dX12_drawn_168 : decode cX12_drawn 168 = .ok (.invokestatic 204, 3) := by decide +kernel
theorem dX12_drawn_171 : decode cX12_drawn 171 = .ok (.invokestatic 208, 3) := by decide +kernel
theorem dX12_drawn_174 : decode cX12_drawn 174 = .ok (.ireturn, 1) := by decide +kernel
theorem dX12_image_0 : decode cX12_image 0 = .ok (.iload_n 1, 1) := by decide +kernel
theorem dX12_image_1 : decode cX12_image 1 = .ok (.i2l, 1) := by decide +kernel
theorem dX12_image_2 : decode cX12_image 2 = .ok (.lconst 0, 1) := by decide +kernel
theorem dX12_image_3 : decode cX12_image 3 = .ok (.lconst 1, 1) := by decide +kernel
theorem dX12_image_4 : decode cX12_image 4 = .ok (.invokestatic 75, 3) := by decide +kernel
theorem dX12_image_7 : decode cX12_image 7 = .ok (.ifCond .ne 6, 3) := by decide +kernel
theorem dX12_image_10 : decode cX12_image 10 = .ok (.ldc 85, 2) := by decide +kernel
theorem dX12_image_12 : decode cX12_image 12 = .ok (.ireturn, 1) := by decide +kernel
theorem dX12_image_13 : decode cX12_image 13 = .ok (.aload_n 0, 1) := by decide +kernel
theorem dX12_image_14 : decode cX12_image 14 = .ok (.invokevirtual 159, 3) := by decide +kernel
theorem dX12_image_17 : decode cX12_image 17 = .ok (.ifCond .ne 6, 3) := by decide +kernel
theorem dX12_image_20 : decode cX12_image 20 = .ok (.ldc 158, 2) := by decide +kernel
theorem dX12_image_22 : decode cX12_image 22 = .ok (.ireturn, 1) := by decide +kernel
theorem dX12_image_23 : decode cX12_image 23 = .ok (.iconst 0, 1) := by decide +kernel
theorem dX12_image_24 : decode cX12_image 24 = .ok (.istore_n 2, 1) := by decide +kernel
theorem dX12_image_25 : decode cX12_image 25 = .ok (.iload_n 2, 1) := by decide +kernel
theorem dX12_image_26 : decode cX12_image 26 = .ok (.bipush 43, 2) := by decide +kernel
theorem dX12_image_28 : decode cX12_image 28 = .ok (.if_icmp .ge 26, 3) := by decide +kernel
theorem dX12_image_31 : decode cX12_image 31 = .ok (.aload_n 0, 1) := by decide +kernel
theorem dX12_image_32 : decode cX12_image 32 = .ok (.getfield 62, 3) := by decide +kernel
theorem dX12_image_35 : decode cX12_image 35 = .ok (.bipush 43, 2) := by decide +kernel
theorem dX12_image_37 : decode cX12_image 37 = .ok (.iload_n 1, 1) := by decide +kernel
theorem dX12_image_38 : decode cX12_image 38 = .ok (.imul, 1) := by decide +kernel
theorem dX12_image_39 : decode cX12_image 39 = .ok (.iload_n 2, 1) := by decide +kernel
theorem dX12_image_40 : decode cX12_image 40 = .ok (.iadd, 1) := by decide +kernel
theorem dX12_image_41 : decode cX12_image 41 = .ok (.aload_n 0, 1) := by decide +kernel
theorem dX12_image_42 : decode cX12_image 42 = .ok (.getfield 19, 3) := by decide +kernel
theorem dX12_image_45 : decode cX12_image 45 = .ok (.iload_n 2, 1) := by decide +kernel
theorem dX12_image_46 : decode cX12_image 46 = .ok (.iaload, 1) := by decide +kernel
theorem dX12_image_47 : decode cX12_image 47 = .ok (.iastore, 1) := by decide +kernel
theorem dX12_image_48 : decode cX12_image 48 = .ok (.iinc 2 1, 3) := by decide +kernel
theorem dX12_image_51 : decode cX12_image 51 = .ok (.goto (-26), 3) := by decide +kernel
theorem dX12_image_54 : decode cX12_image 54 = .ok (.aload_n 0, 1) := by decide +kernel
theorem dX12_image_55 : decode cX12_image 55 = .ok (.getfield 58, 3) := by decide +kernel
theorem dX12_image_58 : decode cX12_image 58 = .ok (.iload_n 1, 1) := by decide +kernel
theorem dX12_image_59 : decode cX12_image 59 = .ok (.iconst 1, 1) := by decide +kernel
theorem dX12_image_60 : decode cX12_image 60 = .ok (.bastore, 1) := by decide +kernel
theorem dX12_image_61 : decode cX12_image 61 = .ok (.iconst 1, 1) := by decide +kernel
theorem dX12_image_62 : decode cX12_image 62 = .ok (.ireturn, 1) := by decide +kernel
theorem dX12_restore_0 : decode cX12_restore 0 = .ok (.iload_n 1, 1) := by decide +kernel
theorem dX12_restore_1 : decode cX12_restore 1 = .ok (.i2l, 1) := by decide +kernel
theorem dX12_restore_2 : decode cX12_restore 2 = .ok (.lconst 0, 1) := by decide +kernel
theorem dX12_restore_3 : decode cX12_restore 3 = .ok (.lconst 1, 1) := by decide +kernel
theorem dX12_restore_4 : decode cX12_restore 4 = .ok (.invokestatic 75, 3) := by decide +kernel
theorem dX12_restore_7 : decode cX12_restore 7 = .ok (.ifCond .ne 6, 3) := by decide +kernel
theorem dX12_restore_10 : decode cX12_restore 10 = .ok (.ldc 85, 2) := by decide +kernel
theorem dX12_restore_12 : decode cX12_restore 12 = .ok (.ireturn, 1) := by decide +kernel
theorem dX12_restore_13 : decode cX12_restore 13 = .ok (.aload_n 0, 1) := by decide +kernel
theorem dX12_restore_14 : decode cX12_restore 14 = .ok (.getfield 58, 3) := by decide +kernel
theorem dX12_restore_17 : decode cX12_restore 17 = .ok (.iload_n 1, 1) := by decide +kernel
theorem dX12_restore_18 : decode cX12_restore 18 = .ok (.baload, 1) := by decide +kernel
theorem dX12_restore_19 : decode cX12_restore 19 = .ok (.ifCond .ne 6, 3) := by decide +kernel
theorem dX12_restore_22 : decode cX12_restore 22 = .ok (.ldc 158, 2) := by decide +kernel
theorem dX12_restore_24 : decode cX12_restore 24 = .ok (.ireturn, 1) := by decide +kernel
theorem dX12_restore_25 : decode cX12_restore 25 = .ok (.iconst 0, 1) := by decide +kernel
theorem dX12_restore_26 : decode cX12_restore 26 = .ok (.istore_n 2, 1) := by decide +kernel
theorem dX12_restore_27 : decode cX12_restore 27 = .ok (.iload_n 2, 1) := by decide +kernel
theorem dX12_restore_28 : decode cX12_restore 28 = .ok (.bipush 43, 2) := by decide +kernel
theorem dX12_restore_30 : decode cX12_restore 30 = .ok (.if_icmp .ge 26, 3) := by decide +kernel
theorem dX12_restore_33 : decode cX12_restore 33 = .ok (.aload_n 0, 1) := by decide +kernel
theorem dX12_restore_34 : decode cX12_restore 34 = .ok (.getfield 19, 3) := by decide +kernel
theorem dX12_restore_37 : decode cX12_restore 37 = .ok (.iload_n 2, 1) := by decide +kernel
theorem dX12_restore_38 : decode cX12_restore 38 = .ok (.aload_n 0, 1) := by decide +kernel
theorem dX12_restore_39 : decode cX12_restore 39 = .ok (.getfield 62, 3) := by decide +kernel
theorem dX12_restore_42 : decode cX12_restore 42 = .ok (.bipush 43, 2) := by decide +kernel
theorem dX12_restore_44 : decode cX12_restore 44 = .ok (.iload_n 1, 1) := by decide +kernel
theorem dX12_restore_45 : decode cX12_restore 45 = .ok (.imul, 1) := by decide +kernel
theorem dX12_restore_46 : decode cX12_restore 46 = .ok (.iload_n 2, 1) := by decide +kernel
theorem dX12_restore_47 : decode cX12_restore 47 = .ok (.iadd, 1) := by decide +kernel
theorem dX12_restore_48 : decode cX12_restore 48 = .ok (.iaload, 1) := by decide +kernel
theorem dX12_restore_49 : decode cX12_restore 49 = .ok (.iastore, 1) := by decide +kernel
theorem dX12_restore_50 : decode cX12_restore 50 = .ok (.iinc 2 1, 3) := by decide +kernel
theorem dX12_restore_53 : decode cX12_restore 53 = .ok (.goto (-26), 3) := by decide +kernel
theorem dX12_restore_56 : decode cX12_restore 56 = .ok (.aload_n 0, 1) := by decide +kernel
theorem dX12_restore_57 : decode cX12_restore 57 = .ok (.iconst 0, 1) := by decide +kernel
theorem dX12_restore_58 : decode cX12_restore 58 = .ok (.putfield 155, 3) := by decide +kernel
theorem dX12_restore_61 : decode cX12_restore 61 = .ok (.iconst 1, 1) := by decide +kernel
theorem dX12_restore_62 : decode cX12_restore 62 = .ok (.ireturn, 1) := by decide +kernel
theorem dX12_isOf_0 : decode cX12_isOf 0 = .ok (.iload_n 1, 1) := by decide +kernel
theorem dX12_isOf_1 : decode cX12_isOf 1 = .ok (.ifCond .eq 28, 3) := by decide +kernel
theorem dX12_isOf_4 : decode cX12_isOf 4 = .ok (.iload_n 0, 1) := by decide +kernel
theorem dX12_isOf_5 : decode cX12_isOf 5 = .ok (.iload_n 1, 1) := by decide +kernel
theorem dX12_isOf_6 : decode cX12_isOf 6 = .ok (.if_icmp .eq 23, 3) := by decide +kernel
theorem dX12_isOf_9 : decode cX12_isOf 9 = .ok (.iload_n 1, 1) := by decide +kernel
theorem dX12_isOf_10 : decode cX12_isOf 10 = .ok (.iconst 1, 1) := by decide +kernel
theorem dX12_isOf_11 : decode cX12_isOf 11 = .ok (.if_icmp .ne 8, 3) := by decide +kernel
theorem dX12_isOf_14 : decode cX12_isOf 14 = .ok (.iload_n 0, 1) := by decide +kernel
theorem dX12_isOf_15 : decode cX12_isOf 15 = .ok (.iconst 4, 1) := by decide +kernel
theorem dX12_isOf_16 : decode cX12_isOf 16 = .ok (.if_icmp .lt 13, 3) := by decide +kernel
theorem dX12_isOf_19 : decode cX12_isOf 19 = .ok (.iload_n 1, 1) := by decide +kernel
theorem dX12_isOf_20 : decode cX12_isOf 20 = .ok (.iconst 4, 1) := by decide +kernel
theorem dX12_isOf_21 : decode cX12_isOf 21 = .ok (.if_icmp .ne 12, 3) := by decide +kernel
theorem dX12_isOf_24 : decode cX12_isOf 24 = .ok (.iload_n 0, 1) := by decide +kernel
theorem dX12_isOf_25 : decode cX12_isOf 25 = .ok (.iconst 5, 1) := by decide +kernel
theorem dX12_isOf_26 : decode cX12_isOf 26 = .ok (.if_icmp .ne 7, 3) := by decide +kernel
theorem dX12_isOf_29 : decode cX12_isOf 29 = .ok (.iconst 1, 1) := by decide +kernel
theorem dX12_isOf_30 : decode cX12_isOf 30 = .ok (.goto 4, 3) := by decide +kernel
theorem dX12_isOf_33 : decode cX12_isOf 33 = .ok (.iconst 0, 1) := by decide +kernel
theorem dX12_isOf_34 : decode cX12_isOf 34 = .ok (.ireturn, 1) := by decide +kernel
theorem dX12_kind_0 : decode cX12_kind 0 = .ok (.aload_n 0, 1) := by decide +kernel
theorem dX12_kind_1 : decode cX12_kind 1 = .ok (.iload_n 1, 1) := by decide +kernel
theorem dX12_kind_2 : decode cX12_kind 2 = .ok (.invokevirtual 178, 3) := by decide +kernel
theorem dX12_kind_5 : decode cX12_kind 5 = .ok (.ifCond .eq 14, 3) := by decide +kernel
theorem dX12_kind_8 : decode cX12_kind 8 = .ok (.aload_n 0, 1) := by decide +kernel
theorem dX12_kind_9 : decode cX12_kind 9 = .ok (.getfield 19, 3) := by decide +kernel
theorem dX12_kind_12 : decode cX12_kind 12 = .ok (.iload_n 1, 1) := by decide +kernel
theorem dX12_kind_13 : decode cX12_kind 13 = .ok (.invokestatic 184, 3) := by decide +kernel
theorem dX12_kind_16 : decode cX12_kind 16 = .ok (.goto 5, 3) := by decide +kernel
theorem dX12_kind_19 : decode cX12_kind 19 = .ok (.ldc 85, 2) := by decide +kernel
theorem dX12_kind_21 : decode cX12_kind 21 = .ok (.ireturn, 1) := by decide +kernel
theorem dX12_as_0 : decode cX12_as 0 = .ok (.aload_n 0, 1) := by decide +kernel
theorem dX12_as_1 : decode cX12_as 1 = .ok (.iload_n 1, 1) := by decide +kernel
theorem dX12_as_2 : decode cX12_as 2 = .ok (.invokevirtual 178, 3) := by decide +kernel
theorem dX12_as_5 : decode cX12_as 5 = .ok (.ifCond .eq 15, 3) := by decide +kernel
theorem dX12_as_8 : decode cX12_as 8 = .ok (.iload_n 2, 1) := by decide +kernel
theorem dX12_as_9 : decode cX12_as 9 = .ok (.i2l, 1) := by decide +kernel
theorem dX12_as_10 : decode cX12_as 10 = .ok (.lconst 0, 1) := by decide +kernel
theorem dX12_as_11 : decode cX12_as 11 = .ok (.ldc2_w 163, 3) := by decide +kernel
theorem dX12_as_14 : decode cX12_as 14 = .ok (.invokestatic 75, 3) := by decide +kernel
theorem dX12_as_17 : decode cX12_as 17 = .ok (.ifCond .ne 6, 3) := by decide +kernel
theorem dX12_as_20 : decode cX12_as 20 = .ok (.ldc 85, 2) := by decide +kernel
theorem dX12_as_22 : decode cX12_as 22 = .ok (.ireturn, 1) := by decide +kernel
theorem dX12_as_23 : decode cX12_as 23 = .ok (.aload_n 0, 1) := by decide +kernel
theorem dX12_as_24 : decode cX12_as 24 = .ok (.iconst 0, 1) := by decide +kernel
theorem dX12_as_25 : decode cX12_as 25 = .ok (.putfield 68, 3) := by decide +kernel
theorem dX12_as_28 : decode cX12_as 28 = .ok (.aload_n 0, 1) := by decide +kernel
theorem dX12_as_29 : decode cX12_as 29 = .ok (.getfield 19, 3) := by decide +kernel
theorem dX12_as_32 : decode cX12_as 32 = .ok (.iload_n 1, 1) := by decide +kernel
theorem dX12_as_33 : decode cX12_as 33 = .ok (.invokestatic 184, 3) := by decide +kernel
theorem dX12_as_36 : decode cX12_as 36 = .ok (.iload_n 2, 1) := by decide +kernel
theorem dX12_as_37 : decode cX12_as 37 = .ok (.invokestatic 342, 3) := by decide +kernel
theorem dX12_as_40 : decode cX12_as 40 = .ok (.ifCond .eq 7, 3) := by decide +kernel
theorem dX12_as_43 : decode cX12_as 43 = .ok (.iload_n 1, 1) := by decide +kernel
theorem dX12_as_44 : decode cX12_as 44 = .ok (.goto 8, 3) := by decide +kernel
theorem dX12_as_47 : decode cX12_as 47 = .ok (.aload_n 0, 1) := by decide +kernel
theorem dX12_as_48 : decode cX12_as 48 = .ok (.iconst 3, 1) := by decide +kernel
theorem dX12_as_49 : decode cX12_as 49 = .ok (.invokevirtual 86, 3) := by decide +kernel
theorem dX12_as_52 : decode cX12_as 52 = .ok (.ireturn, 1) := by decide +kernel
theorem dX12_began_0 : decode cX12_began 0 = .ok (.aload_n 0, 1) := by decide +kernel
theorem dX12_began_1 : decode cX12_began 1 = .ok (.getfield 345, 3) := by decide +kernel
theorem dX12_began_4 : decode cX12_began 4 = .ok (.bipush 16, 2) := by decide +kernel
theorem dX12_began_6 : decode cX12_began 6 = .ok (.if_icmp .ge 23, 3) := by decide +kernel
theorem dX12_began_9 : decode cX12_began 9 = .ok (.aload_n 0, 1) := by decide +kernel
theorem dX12_began_10 : decode cX12_began 10 = .ok (.getfield 65, 3) := by decide +kernel
theorem dX12_began_13 : decode cX12_began 13 = .ok (.aload_n 0, 1) := by decide +kernel
theorem dX12_began_14 : decode cX12_began 14 = .ok (.getfield 345, 3) := by decide +kernel
theorem dX12_began_17 : decode cX12_began 17 = .ok (.iload_n 1, 1) := by decide +kernel
theorem dX12_began_18 : decode cX12_began 18 = .ok (.iastore, 1) := by decide +kernel
theorem dX12_began_19 : decode cX12_began 19 = .ok (.aload_n 0, 1) := by decide +kernel
theorem dX12_began_20 : decode cX12_began 20 = .ok (.dup, 1) := by decide +kernel
theorem dX12_began_21 : decode cX12_began 21 = .ok (.getfield 345, 3) := by decide +kernel
theorem dX12_began_24 : decode cX12_began 24 = .ok (.iconst 1, 1) := by decide +kernel
theorem dX12_began_25 : decode cX12_began 25 = .ok (.iadd, 1) := by decide +kernel
theorem dX12_began_26 : decode cX12_began 26 = .ok (.putfield 345, 3) := by decide +kernel
theorem dX12_began_29 : decode cX12_began 29 = .ok (.return_, 1) := by decide +kernel
theorem dX12_lentSize_0 : decode cX12_lentSize 0 = .ok (.aload_n 0, 1) := by decide +kernel
theorem dX12_lentSize_1 : decode cX12_lentSize 1 = .ok (.bipush 10, 2) := by decide +kernel
theorem dX12_lentSize_3 : decode cX12_lentSize 3 = .ok (.invokevirtual 348, 3) := by decide +kernel
theorem dX12_lentSize_6 : decode cX12_lentSize 6 = .ok (.aload_n 0, 1) := by decide +kernel
theorem dX12_lentSize_7 : decode cX12_lentSize 7 = .ok (.getfield 19, 3) := by decide +kernel
theorem dX12_lentSize_10 : decode cX12_lentSize 10 = .ok (.iconst 3, 1) := by decide +kernel
theorem dX12_lentSize_11 : decode cX12_lentSize 11 = .ok (.iconst 4, 1) := by decide +kernel
theorem dX12_lentSize_12 : decode cX12_lentSize 12 = .ok (.iload_n 1, 1) := by decide +kernel
theorem dX12_lentSize_13 : decode cX12_lentSize 13 = .ok (.imul, 1) := by decide +kernel
theorem dX12_lentSize_14 : decode cX12_lentSize 14 = .ok (.iadd, 1) := by decide +kernel
theorem dX12_lentSize_15 : decode cX12_lentSize 15 = .ok (.iconst 1, 1) := by decide +kernel
theorem dX12_lentSize_16 : decode cX12_lentSize 16 = .ok (.iadd, 1) := by decide +kernel
theorem dX12_lentSize_17 : decode cX12_lentSize 17 = .ok (.iaload, 1) := by decide +kernel
theorem dX12_lentSize_18 : decode cX12_lentSize 18 = .ok (.ireturn, 1) := by decide +kernel
theorem dX12_copySize_0 : decode cX12_copySize 0 = .ok (.aload_n 0, 1) := by decide +kernel
theorem dX12_copySize_1 : decode cX12_copySize 1 = .ok (.getfield 19, 3) := by decide +kernel
theorem dX12_copySize_4 : decode cX12_copySize 4 = .ok (.iload_n 1, 1) := by decide +kernel
theorem dX12_copySize_5 : decode cX12_copySize 5 = .ok (.invokestatic 184, 3) := by decide +kernel
theorem dX12_copySize_8 : decode cX12_copySize 8 = .ok (.iconst 5, 1) := by decide +kernel
theorem dX12_copySize_9 : decode cX12_copySize 9 = .ok (.if_icmp .ne 7, 3) := by decide +kernel
theorem dX12_copySize_12 : decode cX12_copySize 12 = .ok (.iconst 1, 1) := by decide +kernel
theorem dX12_copySize_13 : decode cX12_copySize 13 = .ok (.goto 4, 3) := by decide +kernel
theorem dX12_copySize_16 : decode cX12_copySize 16 = .ok (.iconst 0, 1) := by decide +kernel
theorem dX12_copySize_17 : decode cX12_copySize 17 = .ok (.istore_n 2, 1) := by decide +kernel
theorem dX12_copySize_18 : decode cX12_copySize 18 = .ok (.iload_n 2, 1) := by decide +kernel
theorem dX12_copySize_19 : decode cX12_copySize 19 = .ok (.ifCond .eq 9, 3) := by decide +kernel
theorem dX12_copySize_22 : decode cX12_copySize 22 = .ok (.aload_n 0, 1) := by decide +kernel
theorem dX12_copySize_23 : decode cX12_copySize 23 = .ok (.bipush 14, 2) := by decide +kernel
theorem dX12_copySize_25 : decode cX12_copySize 25 = .ok (.invokevirtual 348, 3) := by decide +kernel
theorem dX12_copySize_28 : decode cX12_copySize 28 = .ok (.aload_n 0, 1) := by decide +kernel
theorem dX12_copySize_29 : decode cX12_copySize 29 = .ok (.bipush 13, 2) := by decide +kernel
theorem dX12_copySize_31 : decode cX12_copySize 31 = .ok (.invokevirtual 348, 3) := by decide +kernel
theorem dX12_copySize_34 : decode cX12_copySize 34 = .ok (.aload_n 0, 1) := by decide +kernel
theorem dX12_copySize_35 : decode cX12_copySize 35 = .ok (.iload_n 1, 1) := by decide +kernel
theorem dX12_copySize_36 : decode cX12_copySize 36 = .ok (.invokevirtual 351, 3) := by decide +kernel
theorem dX12_copySize_39 : decode cX12_copySize 39 = .ok (.bipush 100, 2) := by decide +kernel
theorem dX12_copySize_41 : decode cX12_copySize 41 = .ok (.isub, 1) := by decide +kernel
theorem dX12_copySize_42 : decode cX12_copySize 42 = .ok (.istore_n 3, 1) := by decide +kernel
theorem dX12_copySize_43 : decode cX12_copySize 43 = .ok (.iload_n 2, 1) := by decide +kernel
theorem dX12_copySize_44 : decode cX12_copySize 44 = .ok (.ifCond .eq 9, 3) := by decide +kernel
theorem dX12_copySize_47 : decode cX12_copySize 47 = .ok (.iconst 2, 1) := by decide +kernel
theorem dX12_copySize_48 : decode cX12_copySize 48 = .ok (.iload_n 3, 1) := by decide +kernel
theorem dX12_copySize_49 : decode cX12_copySize 49 = .ok (.imul, 1) := by decide +kernel
theorem dX12_copySize_50 : decode cX12_copySize 50 = .ok (.goto 4, 3) := by decide +kernel
theorem dX12_copySize_53 : decode cX12_copySize 53 = .ok (.iload_n 3, 1) := by decide +kernel
theorem dX12_copySize_54 : decode cX12_copySize 54 = .ok (.ireturn, 1) := by decide +kernel
theorem dX12_markOf_0 : decode cX12_markOf 0 = .ok (.aload_n 0, 1) := by decide +kernel
theorem dX12_markOf_1 : decode cX12_markOf 1 = .ok (.getfield 19, 3) := by decide +kernel
theorem dX12_markOf_4 : decode cX12_markOf 4 = .ok (.iload_n 1, 1) := by decide +kernel
theorem dX12_markOf_5 : decode cX12_markOf 5 = .ok (.invokestatic 184, 3) := by decide +kernel
theorem dX12_markOf_8 : decode cX12_markOf 8 = .ok (.istore_n 2, 1) := by decide +kernel
theorem dX12_markOf_9 : decode cX12_markOf 9 = .ok (.iload_n 2, 1) := by decide +kernel
theorem dX12_markOf_10 : decode cX12_markOf 10 = .ok (.iconst 4, 1) := by decide +kernel
theorem dX12_markOf_11 : decode cX12_markOf 11 = .ok (.if_icmp .lt 23, 3) := by decide +kernel
theorem dX12_markOf_14 : decode cX12_markOf 14 = .ok (.aload_n 0, 1) := by decide +kernel
theorem dX12_markOf_15 : decode cX12_markOf 15 = .ok (.bipush 23, 2) := by decide +kernel
theorem dX12_markOf_17 : decode cX12_markOf 17 = .ok (.invokevirtual 348, 3) := by decide +kernel
theorem dX12_markOf_20 : decode cX12_markOf 20 = .ok (.aload_n 0, 1) := by decide +kernel
theorem dX12_markOf_21 : decode cX12_markOf 21 = .ok (.bipush 20, 2) := by decide +kernel
theorem dX12_markOf_23 : decode cX12_markOf 23 = .ok (.invokevirtual 348, 3) := by decide +kernel
theorem dX12_markOf_26 : decode cX12_markOf 26 = .ok (.iload_n 1, 1) := by decide +kernel
theorem dX12_markOf_27 : decode cX12_markOf 27 = .ok (.aload_n 0, 1) := by decide +kernel
theorem dX12_markOf_28 : decode cX12_markOf 28 = .ok (.iload_n 1, 1) := by decide +kernel
theorem dX12_markOf_29 : decode cX12_markOf 29 = .ok (.invokevirtual 354, 3) := by decide +kernel
theorem dX12_markOf_32 : decode cX12_markOf 32 = .ok (.isub, 1) := by decide +kernel
theorem dX12_markOf_33 : decode cX12_markOf 33 = .ok (.ireturn, 1) := by decide +kernel
theorem dX12_markOf_34 : decode cX12_markOf 34 = .ok (.iload_n 2, 1) := by decide +kernel
theorem dX12_markOf_35 : decode cX12_markOf 35 = .ok (.iconst 1, 1) := by decide +kernel
theorem dX12_markOf_36 : decode cX12_markOf 36 = .ok (.if_icmp .eq 19, 3) := by decide +kernel
theorem dX12_markOf_39 : decode cX12_markOf 39 = .ok (.aload_n 0, 1) := by decide +kernel
theorem dX12_markOf_40 : decode cX12_markOf 40 = .ok (.iload_n 2, 1) := by decide +kernel
theorem dX12_markOf_41 : decode cX12_markOf 41 = .ok (.iconst 3, 1) := by decide +kernel
theorem dX12_markOf_42 : decode cX12_markOf 42 = .ok (.if_icmp .ne 8, 3) := by decide +kernel
theorem dX12_markOf_45 : decode cX12_markOf 45 = .ok (.bipush 22, 2) := by decide +kernel
theorem dX12_markOf_47 : decode cX12_markOf 47 = .ok (.goto 5, 3) := by decide +kernel
theorem dX12_markOf_50 : decode cX12_markOf 50 = .ok (.bipush 24, 2) := by decide +kernel
theorem dX12_markOf_52 : decode cX12_markOf 52 = .ok (.invokevirtual 348, 3) := by decide +kernel
theorem dX12_markOf_55 : decode cX12_markOf 55 = .ok (.aload_n 0, 1) := by decide +kernel
theorem dX12_markOf_56 : decode cX12_markOf 56 = .ok (.bipush 21, 2) := by decide +kernel
theorem dX12_markOf_58 : decode cX12_markOf 58 = .ok (.invokevirtual 348, 3) := by decide +kernel
theorem dX12_markOf_61 : decode cX12_markOf 61 = .ok (.aload_n 0, 1) := by decide +kernel
theorem dX12_markOf_62 : decode cX12_markOf 62 = .ok (.bipush 20, 2) := by decide +kernel
theorem dX12_markOf_64 : decode cX12_markOf 64 = .ok (.invokevirtual 348, 3) := by decide +kernel
theorem dX12_markOf_67 : decode cX12_markOf 67 = .ok (.aload_n 0, 1) := by decide +kernel
theorem dX12_markOf_68 : decode cX12_markOf 68 = .ok (.aload_n 0, 1) := by decide +kernel
theorem dX12_markOf_69 : decode cX12_markOf 69 = .ok (.getfield 19, 3) := by decide +kernel
theorem dX12_markOf_72 : decode cX12_markOf 72 = .ok (.invokevirtual 249, 3) := by decide +kernel
theorem dX12_markOf_75 : decode cX12_markOf 75 = .ok (.istore_n 3, 1) := by decide +kernel
theorem dX12_markOf_76 : decode cX12_markOf 76 = .ok (.iload_n 1, 1) := by decide +kernel
theorem dX12_markOf_77 : decode cX12_markOf 77 = .ok (.iload_n 3, 1) := by decide +kernel
theorem dX12_markOf_78 : decode cX12_markOf 78 = .ok (.ifCond .le 12, 3) := by decide +kernel
theorem dX12_markOf_81 : decode cX12_markOf 81 = .ok (.aload_n 0, 1) := by decide +kernel
theorem dX12_markOf_82 : decode cX12_markOf 82 = .ok (.getfield 46, 3) := by decide +kernel
theorem dX12_markOf_85 : decode cX12_markOf 85 = .ok (.iload_n 1, 1) := by decide +kernel
theorem dX12_markOf_86 : decode cX12_markOf 86 = .ok (.iaload, 1) := by decide +kernel
theorem dX12_markOf_87 : decode cX12_markOf 87 = .ok (.goto 4, 3) := by decide +kernel
theorem dX12_markOf_90 : decode cX12_markOf 90 = .ok (.iconst 0, 1) := by decide +kernel
theorem dX12_markOf_91 : decode cX12_markOf 91 = .ok (.iadd, 1) := by decide +kernel
theorem dX12_markOf_92 : decode cX12_markOf 92 = .ok (.istore 4, 2) := by decide +kernel
theorem dX12_markOf_94 : decode cX12_markOf 94 = .ok (.iload_n 2, 1) := by decide +kernel
theorem dX12_markOf_95 : decode cX12_markOf 95 = .ok (.iconst 1, 1) := by decide +kernel
theorem dX12_markOf_96 : decode cX12_markOf 96 = .ok (.if_icmp .ne 8, 3) := by decide +kernel
theorem dX12_markOf_99 : decode cX12_markOf 99 = .ok (.iload 4, 2) := by decide +kernel
theorem dX12_markOf_101 : decode cX12_markOf 101 = .ok (.goto 21, 3) := by decide +kernel
theorem dX12_markOf_104 : decode cX12_markOf 104 = .ok (.iload_n 2, 1) := by decide +kernel
theorem dX12_markOf_105 : decode cX12_markOf 105 = .ok (.iconst 3, 1) := by decide +kernel
theorem dX12_markOf_106 : decode cX12_markOf 106 = .ok (.if_icmp .ne 12, 3) := by decide +kernel
theorem dX12_markOf_109 : decode cX12_markOf 109 = .ok (.iload 4, 2) := by decide +kernel
theorem dX12_markOf_111 : decode cX12_markOf 111 = .ok (.sipush 1000, 3) := by decide +kernel
theorem dX12_markOf_114 : decode cX12_markOf 114 = .ok (.isub, 1) := by decide +kernel
theorem dX12_markOf_115 : decode cX12_markOf 115 = .ok (.goto 7, 3) := by decide +kernel
theorem dX12_markOf_118 : decode cX12_markOf 118 = .ok (.iconst 2, 1) := by decide +kernel
theorem dX12_markOf_119 : decode cX12_markOf 119 = .ok (.iload 4, 2) := by decide +kernel
theorem dX12_markOf_121 : decode cX12_markOf 121 = .ok (.imul, 1) := by decide +kernel
theorem dX12_markOf_122 : decode cX12_markOf 122 = .ok (.ireturn, 1) := by decide +kernel
theorem dX12_askedSize_0 : decode cX12_askedSize 0 = .ok (.aload_n 0, 1) := by decide +kernel
theorem dX12_askedSize_1 : decode cX12_askedSize 1 = .ok (.getfield 19, 3) := by decide +kernel
theorem dX12_askedSize_4 : decode cX12_askedSize 4 = .ok (.iload_n 1, 1) := by decide +kernel
theorem dX12_askedSize_5 : decode cX12_askedSize 5 = .ok (.invokestatic 184, 3) := by decide +kernel
theorem dX12_askedSize_8 : decode cX12_askedSize 8 = .ok (.istore_n 2, 1) := by decide +kernel
theorem dX12_askedSize_9 : decode cX12_askedSize 9 = .ok (.iload_n 2, 1) := by decide +kernel
theorem dX12_askedSize_10 : decode cX12_askedSize 10 = .ok (.iconst 4, 1) := by decide +kernel
theorem dX12_askedSize_11 : decode cX12_askedSize 11 = .ok (.if_icmp .lt 9, 3) := by decide +kernel
theorem dX12_askedSize_14 : decode cX12_askedSize 14 = .ok (.aload_n 0, 1) := by decide +kernel
theorem dX12_askedSize_15 : decode cX12_askedSize 15 = .ok (.iload_n 1, 1) := by decide +kernel
theorem dX12_askedSize_16 : decode cX12_askedSize 16 = .ok (.invokevirtual 354, 3) := by decide +kernel
theorem dX12_askedSize_19 : decode cX12_askedSize 19 = .ok (.ireturn, 1) := by decide +kernel
theorem dX12_askedSize_20 : decode cX12_askedSize 20 = .ok (.iload_n 2, 1) := by decide +kernel
theorem dX12_askedSize_21 : decode cX12_askedSize 21 = .ok (.iconst 2, 1) := by decide +kernel
theorem dX12_askedSize_22 : decode cX12_askedSize 22 = .ok (.if_icmp .ne 9, 3) := by decide +kernel
theorem dX12_askedSize_25 : decode cX12_askedSize 25 = .ok (.aload_n 0, 1) := by decide +kernel
theorem dX12_askedSize_26 : decode cX12_askedSize 26 = .ok (.bipush 12, 2) := by decide +kernel
theorem dX12_askedSize_28 : decode cX12_askedSize 28 = .ok (.invokevirtual 348, 3) := by decide +kernel
theorem dX12_askedSize_31 : decode cX12_askedSize 31 = .ok (.aload_n 0, 1) := by decide +kernel
theorem dX12_askedSize_32 : decode cX12_askedSize 32 = .ok (.bipush 11, 2) := by decide +kernel
theorem dX12_askedSize_34 : decode cX12_askedSize 34 = .ok (.invokevirtual 348, 3) := by decide +kernel
theorem dX12_askedSize_37 : decode cX12_askedSize 37 = .ok (.aload_n 0, 1) := by decide +kernel
theorem dX12_askedSize_38 : decode cX12_askedSize 38 = .ok (.iload_n 1, 1) := by decide +kernel
theorem dX12_askedSize_39 : decode cX12_askedSize 39 = .ok (.invokevirtual 351, 3) := by decide +kernel
theorem dX12_askedSize_42 : decode cX12_askedSize 42 = .ok (.istore_n 3, 1) := by decide +kernel
theorem dX12_askedSize_43 : decode cX12_askedSize 43 = .ok (.iload_n 3, 1) := by decide +kernel
theorem dX12_askedSize_44 : decode cX12_askedSize 44 = .ok (.aload_n 0, 1) := by decide +kernel
theorem dX12_askedSize_45 : decode cX12_askedSize 45 = .ok (.iload_n 1, 1) := by decide +kernel
theorem dX12_askedSize_46 : decode cX12_askedSize 46 = .ok (.invokevirtual 357, 3) := by decide +kernel
theorem dX12_askedSize_49 : decode cX12_askedSize 49 = .ok (.iadd, 1) := by decide +kernel
theorem dX12_askedSize_50 : decode cX12_askedSize 50 = .ok (.istore_n 3, 1) := by decide +kernel
theorem dX12_askedSize_51 : decode cX12_askedSize 51 = .ok (.iload_n 2, 1) := by decide +kernel
theorem dX12_askedSize_52 : decode cX12_askedSize 52 = .ok (.iconst 2, 1) := by decide +kernel
theorem dX12_askedSize_53 : decode cX12_askedSize 53 = .ok (.if_icmp .ne 8, 3) := by decide +kernel
theorem dX12_askedSize_56 : decode cX12_askedSize 56 = .ok (.iload_n 3, 1) := by decide +kernel
theorem dX12_askedSize_57 : decode cX12_askedSize 57 = .ok (.ineg, 1) := by decide +kernel
theorem dX12_askedSize_58 : decode cX12_askedSize 58 = .ok (.goto 4, 3) := by decide +kernel
theorem dX12_askedSize_61 : decode cX12_askedSize 61 = .ok (.iload_n 3, 1) := by decide +kernel
theorem dX12_askedSize_62 : decode cX12_askedSize 62 = .ok (.ireturn, 1) := by decide +kernel
theorem dX12_ask_0 : decode cX12_ask 0 = .ok (.aload_n 0, 1) := by decide +kernel
theorem dX12_ask_1 : decode cX12_ask 1 = .ok (.iload_n 1, 1) := by decide +kernel
theorem dX12_ask_2 : decode cX12_ask 2 = .ok (.invokevirtual 178, 3) := by decide +kernel
theorem dX12_ask_5 : decode cX12_ask 5 = .ok (.ifCond .eq 13, 3) := by decide +kernel
theorem dX12_ask_8 : decode cX12_ask 8 = .ok (.iload_n 2, 1) := by decide +kernel
theorem dX12_ask_9 : decode cX12_ask 9 = .ok (.i2l, 1) := by decide +kernel
theorem dX12_ask_10 : decode cX12_ask 10 = .ok (.lconst 0, 1) := by decide +kernel
theorem dX12_ask_11 : decode cX12_ask 11 = .ok (.lconst 1, 1) := by decide +kernel
theorem dX12_ask_12 : decode cX12_ask 12 = .ok (.invokestatic 75, 3) := by decide +kernel
theorem dX12_ask_15 : decode cX12_ask 15 = .ok (.ifCond .ne 6, 3) := by decide +kernel
theorem dX12_ask_18 : decode cX12_ask 18 = .ok (.ldc 85, 2) := by decide +kernel
theorem dX12_ask_20 : decode cX12_ask 20 = .ok (.ireturn, 1) := by decide +kernel
theorem dX12_ask_21 : decode cX12_ask 21 = .ok (.aload_n 0, 1) := by decide +kernel
theorem dX12_ask_22 : decode cX12_ask 22 = .ok (.iconst 0, 1) := by decide +kernel
theorem dX12_ask_23 : decode cX12_ask 23 = .ok (.putfield 345, 3) := by decide +kernel
theorem dX12_ask_26 : decode cX12_ask 26 = .ok (.iload_n 2, 1) := by decide +kernel
theorem dX12_ask_27 : decode cX12_ask 27 = .ok (.ifCond .ne 11, 3) := by decide +kernel
theorem dX12_ask_30 : decode cX12_ask 30 = .ok (.aload_n 0, 1) := by decide +kernel
theorem dX12_ask_31 : decode cX12_ask 31 = .ok (.iload_n 1, 1) := by decide +kernel
theorem dX12_ask_32 : decode cX12_ask 32 = .ok (.invokevirtual 360, 3) := by decide +kernel
theorem dX12_ask_35 : decode cX12_ask 35 = .ok (.goto 8, 3) := by decide +kernel
theorem dX12_ask_38 : decode cX12_ask 38 = .ok (.aload_n 0, 1) := by decide +kernel
theorem dX12_ask_39 : decode cX12_ask 39 = .ok (.iload_n 1, 1) := by decide +kernel
theorem dX12_ask_40 : decode cX12_ask 40 = .ok (.invokevirtual 357, 3) := by decide +kernel
theorem dX12_ask_43 : decode cX12_ask 43 = .ok (.ireturn, 1) := by decide +kernel
theorem dX12_trace_0 : decode cX12_trace 0 = .ok (.iload_n 1, 1) := by decide +kernel
theorem dX12_trace_1 : decode cX12_trace 1 = .ok (.i2l, 1) := by decide +kernel
theorem dX12_trace_2 : decode cX12_trace 2 = .ok (.lconst 0, 1) := by decide +kernel
theorem dX12_trace_3 : decode cX12_trace 3 = .ok (.aload_n 0, 1) := by decide +kernel
theorem dX12_trace_4 : decode cX12_trace 4 = .ok (.getfield 345, 3) := by decide +kernel
theorem dX12_trace_7 : decode cX12_trace 7 = .ok (.iconst 1, 1) := by decide +kernel
theorem dX12_trace_8 : decode cX12_trace 8 = .ok (.isub, 1) := by decide +kernel
theorem dX12_trace_9 : decode cX12_trace 9 = .ok (.i2l, 1) := by decide +kernel
theorem dX12_trace_10 : decode cX12_trace 10 = .ok (.invokestatic 75, 3) := by decide +kernel
theorem dX12_trace_13 : decode cX12_trace 13 = .ok (.ifCond .eq 12, 3) := by decide +kernel
theorem dX12_trace_16 : decode cX12_trace 16 = .ok (.aload_n 0, 1) := by decide +kernel
theorem dX12_trace_17 : decode cX12_trace 17 = .ok (.getfield 65, 3) := by decide +kernel
theorem dX12_trace_20 : decode cX12_trace 20 = .ok (.iload_n 1, 1) := by decide +kernel
theorem dX12_trace_21 : decode cX12_trace 21 = .ok (.iaload, 1) := by decide +kernel
theorem dX12_trace_22 : decode cX12_trace 22 = .ok (.goto 5, 3) := by decide +kernel
theorem dX12_trace_25 : decode cX12_trace 25 = .ok (.ldc 112, 2) := by decide +kernel
theorem dX12_trace_27 : decode cX12_trace 27 = .ok (.ireturn, 1) := by decide +kernel
theorem dX12_sumOf_0 : decode cX12_sumOf 0 = .ok (.iconst 0, 1) := by decide +kernel
theorem dX12_sumOf_1 : decode cX12_sumOf 1 = .ok (.istore_n 2, 1) := by decide +kernel
theorem dX12_sumOf_2 : decode cX12_sumOf 2 = .ok (.iconst 0, 1) := by decide +kernel
theorem dX12_sumOf_3 : decode cX12_sumOf 3 = .ok (.istore_n 3, 1) := by decide +kernel
theorem dX12_sumOf_4 : decode cX12_sumOf 4 = .ok (.iload_n 3, 1) := by decide +kernel
theorem dX12_sumOf_5 : decode cX12_sumOf 5 = .ok (.aload_n 0, 1) := by decide +kernel
theorem dX12_sumOf_6 : decode cX12_sumOf 6 = .ok (.getfield 19, 3) := by decide +kernel
theorem dX12_sumOf_9 : decode cX12_sumOf 9 = .ok (.iconst 0, 1) := by decide +kernel
theorem dX12_sumOf_10 : decode cX12_sumOf 10 = .ok (.iaload, 1) := by decide +kernel
theorem dX12_sumOf_11 : decode cX12_sumOf 11 = .ok (.if_icmp .ge 26, 3) := by decide +kernel
theorem dX12_sumOf_14 : decode cX12_sumOf 14 = .ok (.iload_n 2, 1) := by decide +kernel
theorem dX12_sumOf_15 : decode cX12_sumOf 15 = .ok (.aload_n 0, 1) := by decide +kernel
theorem dX12_sumOf_16 : decode cX12_sumOf 16 = .ok (.getfield 19, 3) := by decide +kernel
theorem dX12_sumOf_19 : decode cX12_sumOf 19 = .ok (.iconst 3, 1) := by decide +kernel
theorem dX12_sumOf_20 : decode cX12_sumOf 20 = .ok (.iconst 4, 1) := by decide +kernel
theorem dX12_sumOf_21 : decode cX12_sumOf 21 = .ok (.iload_n 3, 1) := by decide +kernel
theorem dX12_sumOf_22 : decode cX12_sumOf 22 = .ok (.imul, 1) := by decide +kernel
theorem dX12_sumOf_23 : decode cX12_sumOf 23 = .ok (.iadd, 1) := by decide +kernel
theorem dX12_sumOf_24 : decode cX12_sumOf 24 = .ok (.iconst 1, 1) := by decide +kernel
theorem dX12_sumOf_25 : decode cX12_sumOf 25 = .ok (.iadd, 1) := by decide +kernel
theorem dX12_sumOf_26 : decode cX12_sumOf 26 = .ok (.iload_n 1, 1) := by decide +kernel
theorem dX12_sumOf_27 : decode cX12_sumOf 27 = .ok (.iadd, 1) := by decide +kernel
theorem dX12_sumOf_28 : decode cX12_sumOf 28 = .ok (.iaload, 1) := by decide +kernel
theorem dX12_sumOf_29 : decode cX12_sumOf 29 = .ok (.iadd, 1) := by decide +kernel
theorem dX12_sumOf_30 : decode cX12_sumOf 30 = .ok (.istore_n 2, 1) := by decide +kernel
theorem dX12_sumOf_31 : decode cX12_sumOf 31 = .ok (.iinc 3 1, 3) := by decide +kernel
theorem dX12_sumOf_34 : decode cX12_sumOf 34 = .ok (.goto (-30), 3) := by decide +kernel
theorem dX12_sumOf_37 : decode cX12_sumOf 37 = .ok (.iload_n 2, 1) := by decide +kernel
theorem dX12_sumOf_38 : decode cX12_sumOf 38 = .ok (.ireturn, 1) := by decide +kernel
theorem dX12_count_0 : decode cX12_count 0 = .ok (.iconst 0, 1) := by decide +kernel
theorem dX12_count_1 : decode cX12_count 1 = .ok (.istore_n 2, 1) := by decide +kernel
theorem dX12_count_2 : decode cX12_count 2 = .ok (.iload_n 1, 1) := by decide +kernel
theorem dX12_count_3 : decode cX12_count 3 = .ok (.tableswitch 99 0 6 #[41, 74, 81, 81, 81, 89, 94], 41) := by decide +kernel
theorem dX12_count_44 : decode cX12_count 44 = .ok (.iconst 0, 1) := by decide +kernel
theorem dX12_count_45 : decode cX12_count 45 = .ok (.istore_n 3, 1) := by decide +kernel
theorem dX12_count_46 : decode cX12_count 46 = .ok (.iload_n 3, 1) := by decide +kernel
theorem dX12_count_47 : decode cX12_count 47 = .ok (.bipush 8, 2) := by decide +kernel
theorem dX12_count_49 : decode cX12_count 49 = .ok (.if_icmp .ge 26, 3) := by decide +kernel
theorem dX12_count_52 : decode cX12_count 52 = .ok (.iload_n 2, 1) := by decide +kernel
theorem dX12_count_53 : decode cX12_count 53 = .ok (.aload_n 0, 1) := by decide +kernel
theorem dX12_count_54 : decode cX12_count 54 = .ok (.getfield 7, 3) := by decide +kernel
theorem dX12_count_57 : decode cX12_count 57 = .ok (.iload_n 3, 1) := by decide +kernel
theorem dX12_count_58 : decode cX12_count 58 = .ok (.iaload, 1) := by decide +kernel
theorem dX12_count_59 : decode cX12_count 59 = .ok (.ifCond .lt 7, 3) := by decide +kernel
theorem dX12_count_62 : decode cX12_count 62 = .ok (.iconst 1, 1) := by decide +kernel
theorem dX12_count_63 : decode cX12_count 63 = .ok (.goto 4, 3) := by decide +kernel
theorem dX12_count_66 : decode cX12_count 66 = .ok (.iconst 0, 1) := by decide +kernel
theorem dX12_count_67 : decode cX12_count 67 = .ok (.iadd, 1) := by decide +kernel
theorem dX12_count_68 : decode cX12_count 68 = .ok (.istore_n 2, 1) := by decide +kernel
theorem dX12_count_69 : decode cX12_count 69 = .ok (.iinc 3 1, 3) := by decide +kernel
theorem dX12_count_72 : decode cX12_count 72 = .ok (.goto (-26), 3) := by decide +kernel
theorem dX12_count_75 : decode cX12_count 75 = .ok (.iload_n 2, 1) := by decide +kernel
theorem dX12_count_76 : decode cX12_count 76 = .ok (.ireturn, 1) := by decide +kernel
theorem dX12_count_77 : decode cX12_count 77 = .ok (.aload_n 0, 1) := by decide +kernel
theorem dX12_count_78 : decode cX12_count 78 = .ok (.getfield 19, 3) := by decide +kernel
theorem dX12_count_81 : decode cX12_count 81 = .ok (.iconst 0, 1) := by decide +kernel
theorem dX12_count_82 : decode cX12_count 82 = .ok (.iaload, 1) := by decide +kernel
theorem dX12_count_83 : decode cX12_count 83 = .ok (.ireturn, 1) := by decide +kernel
theorem dX12_count_84 : decode cX12_count 84 = .ok (.aload_n 0, 1) := by decide +kernel
theorem dX12_count_85 : decode cX12_count 85 = .ok (.iload_n 1, 1) := by decide +kernel
theorem dX12_count_86 : decode cX12_count 86 = .ok (.iconst 2, 1) := by decide +kernel
theorem dX12_count_87 : decode cX12_count 87 = .ok (.isub, 1) := by decide +kernel
theorem dX12_count_88 : decode cX12_count 88 = .ok (.invokevirtual 363, 3) := by decide +kernel
theorem dX12_count_91 : decode cX12_count 91 = .ok (.ireturn, 1) := by decide +kernel
theorem dX12_count_92 : decode cX12_count 92 = .ok (.aload_n 0, 1) := by decide +kernel
theorem dX12_count_93 : decode cX12_count 93 = .ok (.getfield 155, 3) := by decide +kernel
theorem dX12_count_96 : decode cX12_count 96 = .ok (.ireturn, 1) := by decide +kernel
theorem dX12_count_97 : decode cX12_count 97 = .ok (.aload_n 0, 1) := by decide +kernel
theorem dX12_count_98 : decode cX12_count 98 = .ok (.getfield 96, 3) := by decide +kernel
theorem dX12_count_101 : decode cX12_count 101 = .ok (.ireturn, 1) := by decide +kernel
theorem dX12_count_102 : decode cX12_count 102 = .ok (.ldc 85, 2) := by decide +kernel
theorem dX12_count_104 : decode cX12_count 104 = .ok (.ireturn, 1) := by decide +kernel
theorem dX12_status_0 : decode cX12_status 0 = .ok (.aload_n 0, 1) := by decide +kernel
theorem dX12_status_1 : decode cX12_status 1 = .ok (.getfield 68, 3) := by decide +kernel
theorem dX12_status_4 : decode cX12_status 4 = .ok (.ireturn, 1) := by decide +kernel
