theorem dX11_init_0 : decode cX11_init 0 = .ok (.aload_n 0, 1) := by decide +kernel
theorem dX11_init_1 : decode cX11_init 1 = .ok (.invokespecial 1, 3) := by decide +kernel
theorem dX11_init_4 : decode cX11_init 4 = .ok (.aload_n 0, 1) := by decide +kernel
theorem dX11_init_5 : decode cX11_init 5 = .ok (.new 7, 3) := by decide +kernel
theorem dX11_init_8 : decode cX11_init 8 = .ok (.dup, 1) := by decide +kernel
theorem dX11_init_9 : decode cX11_init 9 = .ok (.invokespecial 9, 3) := by decide +kernel
theorem dX11_init_12 : decode cX11_init 12 = .ok (.putfield 10, 3) := by decide +kernel
theorem dX11_init_15 : decode cX11_init 15 = .ok (.aload_n 0, 1) := by decide +kernel
theorem dX11_init_16 : decode cX11_init 16 = .ok (.new 16, 3) := by decide +kernel
theorem dX11_init_19 : decode cX11_init 19 = .ok (.dup, 1) := by decide +kernel
theorem dX11_init_20 : decode cX11_init 20 = .ok (.invokespecial 18, 3) := by decide +kernel
theorem dX11_init_23 : decode cX11_init 23 = .ok (.putfield 19, 3) := by decide +kernel
theorem dX11_init_26 : decode cX11_init 26 = .ok (.aload_n 0, 1) := by decide +kernel
theorem dX11_init_27 : decode cX11_init 27 = .ok (.new 23, 3) := by decide +kernel
theorem dX11_init_30 : decode cX11_init 30 = .ok (.dup, 1) := by decide +kernel
theorem dX11_init_31 : decode cX11_init 31 = .ok (.invokespecial 25, 3) := by decide +kernel
theorem dX11_init_34 : decode cX11_init 34 = .ok (.putfield 26, 3) := by decide +kernel
theorem dX11_init_37 : decode cX11_init 37 = .ok (.aload_n 0, 1) := by decide +kernel
theorem dX11_init_38 : decode cX11_init 38 = .ok (.new 30, 3) := by decide +kernel
theorem dX11_init_41 : decode cX11_init 41 = .ok (.dup, 1) := by decide +kernel
theorem dX11_init_42 : decode cX11_init 42 = .ok (.invokespecial 32, 3) := by decide +kernel
theorem dX11_init_45 : decode cX11_init 45 = .ok (.putfield 33, 3) := by decide +kernel
theorem dX11_init_48 : decode cX11_init 48 = .ok (.aload_n 0, 1) := by decide +kernel
theorem dX11_init_49 : decode cX11_init 49 = .ok (.new 37, 3) := by decide +kernel
theorem dX11_init_52 : decode cX11_init 52 = .ok (.dup, 1) := by decide +kernel
theorem dX11_init_53 : decode cX11_init 53 = .ok (.invokespecial 39, 3) := by decide +kernel
theorem dX11_init_56 : decode cX11_init 56 = .ok (.putfield 40, 3) := by decide +kernel
theorem dX11_init_59 : decode cX11_init 59 = .ok (.aload_n 0, 1) := by decide +kernel
theorem dX11_init_60 : decode cX11_init 60 = .ok (.iconst 2, 1) := by decide +kernel
theorem dX11_init_61 : decode cX11_init 61 = .ok (.anewarray 30, 3) := by decide +kernel
theorem dX11_init_64 : decode cX11_init 64 = .ok (.putfield 44, 3) := by decide +kernel
theorem dX11_init_67 : decode cX11_init 67 = .ok (.aload_n 0, 1) := by decide +kernel
theorem dX11_init_68 : decode cX11_init 68 = .ok (.new 48, 3) := by decide +kernel
theorem dX11_init_71 : decode cX11_init 71 = .ok (.dup, 1) := by decide +kernel
theorem dX11_init_72 : decode cX11_init 72 = .ok (.invokespecial 50, 3) := by decide +kernel
theorem dX11_init_75 : decode cX11_init 75 = .ok (.putfield 51, 3) := by decide +kernel
theorem dX11_init_78 : decode cX11_init 78 = .ok (.aload_n 0, 1) := by decide +kernel
theorem dX11_init_79 : decode cX11_init 79 = .ok (.new 55, 3) := by decide +kernel
theorem dX11_init_82 : decode cX11_init 82 = .ok (.dup, 1) := by decide +kernel
theorem dX11_init_83 : decode cX11_init 83 = .ok (.invokespecial 57, 3) := by decide +kernel
theorem dX11_init_86 : decode cX11_init 86 = .ok (.putfield 58, 3) := by decide +kernel
theorem dX11_init_89 : decode cX11_init 89 = .ok (.aload_n 0, 1) := by decide +kernel
theorem dX11_init_90 : decode cX11_init 90 = .ok (.new 62, 3) := by decide +kernel
theorem dX11_init_93 : decode cX11_init 93 = .ok (.dup, 1) := by decide +kernel
theorem dX11_init_94 : decode cX11_init 94 = .ok (.invokespecial 64, 3) := by decide +kernel
theorem dX11_init_97 : decode cX11_init 97 = .ok (.putfield 65, 3) := by decide +kernel
theorem dX11_init_100 : decode cX11_init 100 = .ok (.aload_n 0, 1) := by decide +kernel
theorem dX11_init_101 : decode cX11_init 101 = .ok (.iconst 0, 1) := by decide +kernel
theorem dX11_init_102 : decode cX11_init 102 = .ok (.putfield 69, 3) := by decide +kernel
theorem dX11_init_105 : decode cX11_init 105 = .ok (.aload_n 0, 1) := by decide +kernel
theorem dX11_init_106 : decode cX11_init 106 = .ok (.iconst 0, 1) := by decide +kernel
theorem dX11_init_107 : decode cX11_init 107 = .ok (.putfield 73, 3) := by decide +kernel
theorem dX11_init_110 : decode cX11_init 110 = .ok (.aload_n 0, 1) := by decide +kernel
theorem dX11_init_111 : decode cX11_init 111 = .ok (.iconst 0, 1) := by decide +kernel
theorem dX11_init_112 : decode cX11_init 112 = .ok (.putfield 77, 3) := by decide +kernel
theorem dX11_init_115 : decode cX11_init 115 = .ok (.iconst 0, 1) := by decide +kernel
theorem dX11_init_116 : decode cX11_init 116 = .ok (.istore_n 1, 1) := by decide +kernel
theorem dX11_init_117 : decode cX11_init 117 = .ok (.iload_n 1, 1) := by decide +kernel
theorem dX11_init_118 : decode cX11_init 118 = .ok (.iconst 2, 1) := by decide +kernel
theorem dX11_init_119 : decode cX11_init 119 = .ok (.if_icmp .ge 22, 3) := by decide +kernel
theorem dX11_init_122 : decode cX11_init 122 = .ok (.aload_n 0, 1) := by decide +kernel
theorem dX11_init_123 : decode cX11_init 123 = .ok (.getfield 44, 3) := by decide +kernel
theorem dX11_init_126 : decode cX11_init 126 = .ok (.iload_n 1, 1) := by decide +kernel
theorem dX11_init_127 : decode cX11_init 127 = .ok (.new 30, 3) := by decide +kernel
theorem dX11_init_130 : decode cX11_init 130 = .ok (.dup, 1) := by decide +kernel
theorem dX11_init_131 : decode cX11_init 131 = .ok (.invokespecial 32, 3) := by decide +kernel
theorem dX11_init_134 : decode cX11_init 134 = .ok (.aastore, 1) := by decide +kernel
theorem dX11_init_135 : decode cX11_init 135 = .ok (.iinc 1 1, 3) := by decide +kernel
theorem dX11_init_138 : decode cX11_init 138 = .ok (.goto (-21), 3) := by decide +kernel
theorem dX11_init_141 : decode cX11_init 141 = .ok (.return_, 1) := by decide +kernel
theorem dX11_row_0 : decode cX11_row 0 = .ok (.iload_n 1, 1) := by decide +kernel
theorem dX11_row_1 : decode cX11_row 1 = .ok (.invokestatic 80, 3) := by decide +kernel
theorem dX11_row_4 : decode cX11_row 4 = .ok (.ifCond .eq 18, 3) := by decide +kernel
theorem dX11_row_7 : decode cX11_row 7 = .ok (.iload_n 2, 1) := by decide +kernel
theorem dX11_row_8 : decode cX11_row 8 = .ok (.ifCond .lt 14, 3) := by decide +kernel
theorem dX11_row_11 : decode cX11_row 11 = .ok (.iload_n 2, 1) := by decide +kernel
theorem dX11_row_12 : decode cX11_row 12 = .ok (.iconst 2, 1) := by decide +kernel
theorem dX11_row_13 : decode cX11_row 13 = .ok (.if_icmp .gt 9, 3) := by decide +kernel
theorem dX11_row_16 : decode cX11_row 16 = .ok (.iload_n 3, 1) := by decide +kernel
theorem dX11_row_17 : decode cX11_row 17 = .ok (.bipush 40, 2) := by decide +kernel
theorem dX11_row_19 : decode cX11_row 19 = .ok (.if_icmp .le 6, 3) := by decide +kernel
theorem dX11_row_22 : decode cX11_row 22 = .ok (.ldc 84, 2) := by decide +kernel
theorem dX11_row_24 : decode cX11_row 24 = .ok (.ireturn, 1) := by decide +kernel
theorem dX11_row_25 : decode cX11_row 25 = .ok (.iload_n 3, 1) := by decide +kernel
theorem dX11_row_26 : decode cX11_row 26 = .ok (.ifCond .ge 9, 3) := by decide +kernel
theorem dX11_row_29 : decode cX11_row 29 = .ok (.aload_n 0, 1) := by decide +kernel
theorem dX11_row_30 : decode cX11_row 30 = .ok (.iconst 4, 1) := by decide +kernel
theorem dX11_row_31 : decode cX11_row 31 = .ok (.invokevirtual 85, 3) := by decide +kernel
theorem dX11_row_34 : decode cX11_row 34 = .ok (.ireturn, 1) := by decide +kernel
theorem dX11_row_35 : decode cX11_row 35 = .ok (.aload_n 0, 1) := by decide +kernel
theorem dX11_row_36 : decode cX11_row 36 = .ok (.iconst 0, 1) := by decide +kernel
theorem dX11_row_37 : decode cX11_row 37 = .ok (.putfield 77, 3) := by decide +kernel
theorem dX11_row_40 : decode cX11_row 40 = .ok (.aload_n 0, 1) := by decide +kernel
theorem dX11_row_41 : decode cX11_row 41 = .ok (.getfield 10, 3) := by decide +kernel
theorem dX11_row_44 : decode cX11_row 44 = .ok (.iload_n 1, 1) := by decide +kernel
theorem dX11_row_45 : decode cX11_row 45 = .ok (.iload_n 2, 1) := by decide +kernel
theorem dX11_row_46 : decode cX11_row 46 = .ok (.iload_n 3, 1) := by decide +kernel
theorem dX11_row_47 : decode cX11_row 47 = .ok (.invokevirtual 89, 3) := by decide +kernel
theorem dX11_row_50 : decode cX11_row 50 = .ok (.iload_n 3, 1) := by decide +kernel
theorem dX11_row_51 : decode cX11_row 51 = .ok (.ireturn, 1) := by decide +kernel
theorem dX11_set_0 : decode cX11_set 0 = .ok (.iload_n 1, 1) := by decide +kernel
theorem dX11_set_1 : decode cX11_set 1 = .ok (.invokestatic 80, 3) := by decide +kernel
theorem dX11_set_4 : decode cX11_set 4 = .ok (.ifCond .ne 6, 3) := by decide +kernel
theorem dX11_set_7 : decode cX11_set 7 = .ok (.ldc 84, 2) := by decide +kernel
theorem dX11_set_9 : decode cX11_set 9 = .ok (.ireturn, 1) := by decide +kernel
theorem dX11_set_10 : decode cX11_set 10 = .ok (.aload_n 0, 1) := by decide +kernel
theorem dX11_set_11 : decode cX11_set 11 = .ok (.getfield 10, 3) := by decide +kernel
theorem dX11_set_14 : decode cX11_set 14 = .ok (.iload_n 1, 1) := by decide +kernel
theorem dX11_set_15 : decode cX11_set 15 = .ok (.invokevirtual 93, 3) := by decide +kernel
theorem dX11_set_18 : decode cX11_set 18 = .ok (.ifCond .eq 9, 3) := by decide +kernel
theorem dX11_set_21 : decode cX11_set 21 = .ok (.aload_n 0, 1) := by decide +kernel
theorem dX11_set_22 : decode cX11_set 22 = .ok (.iconst 1, 1) := by decide +kernel
theorem dX11_set_23 : decode cX11_set 23 = .ok (.invokevirtual 85, 3) := by decide +kernel
theorem dX11_set_26 : decode cX11_set 26 = .ok (.ireturn, 1) := by decide +kernel
theorem dX11_set_27 : decode cX11_set 27 = .ok (.aload_n 0, 1) := by decide +kernel
theorem dX11_set_28 : decode cX11_set 28 = .ok (.getfield 10, 3) := by decide +kernel
theorem dX11_set_31 : decode cX11_set 31 = .ok (.iload_n 1, 1) := by decide +kernel
theorem dX11_set_32 : decode cX11_set 32 = .ok (.iload_n 2, 1) := by decide +kernel
theorem dX11_set_33 : decode cX11_set 33 = .ok (.iconst 1, 1) := by decide +kernel
theorem dX11_set_34 : decode cX11_set 34 = .ok (.invokevirtual 96, 3) := by decide +kernel
theorem dX11_set_37 : decode cX11_set 37 = .ok (.ifCond .ne 9, 3) := by decide +kernel
theorem dX11_set_40 : decode cX11_set 40 = .ok (.aload_n 0, 1) := by decide +kernel
theorem dX11_set_41 : decode cX11_set 41 = .ok (.iconst 2, 1) := by decide +kernel
theorem dX11_set_42 : decode cX11_set 42 = .ok (.invokevirtual 85, 3) := by decide +kernel
theorem dX11_set_45 : decode cX11_set 45 = .ok (.ireturn, 1) := by decide +kernel
theorem dX11_set_46 : decode cX11_set 46 = .ok (.aload_n 0, 1) := by decide +kernel
theorem dX11_set_47 : decode cX11_set 47 = .ok (.iconst 0, 1) := by decide +kernel
theorem dX11_set_48 : decode cX11_set 48 = .ok (.putfield 77, 3) := by decide +kernel
theorem dX11_set_51 : decode cX11_set 51 = .ok (.aload_n 0, 1) := by decide +kernel
theorem dX11_set_52 : decode cX11_set 52 = .ok (.getfield 10, 3) := by decide +kernel
theorem dX11_set_55 : decode cX11_set 55 = .ok (.iload_n 1, 1) := by decide +kernel
theorem dX11_set_56 : decode cX11_set 56 = .ok (.iload_n 2, 1) := by decide +kernel
theorem dX11_set_57 : decode cX11_set 57 = .ok (.iload_n 3, 1) := by decide +kernel
theorem dX11_set_58 : decode cX11_set 58 = .ok (.invokevirtual 100, 3) := by decide +kernel
theorem dX11_set_61 : decode cX11_set 61 = .ok (.ireturn, 1) := by decide +kernel
theorem dX11_copy_0 : decode cX11_copy 0 = .ok (.iload_n 1, 1) := by decide +kernel
theorem dX11_copy_1 : decode cX11_copy 1 = .ok (.invokestatic 80, 3) := by decide +kernel
theorem dX11_copy_4 : decode cX11_copy 4 = .ok (.ifCond .eq 10, 3) := by decide +kernel
theorem dX11_copy_7 : decode cX11_copy 7 = .ok (.iload_n 3, 1) := by decide +kernel
theorem dX11_copy_8 : decode cX11_copy 8 = .ok (.invokestatic 80, 3) := by decide +kernel
theorem dX11_copy_11 : decode cX11_copy 11 = .ok (.ifCond .ne 6, 3) := by decide +kernel
theorem dX11_copy_14 : decode cX11_copy 14 = .ok (.ldc 84, 2) := by decide +kernel
theorem dX11_copy_16 : decode cX11_copy 16 = .ok (.ireturn, 1) := by decide +kernel
theorem dX11_copy_17 : decode cX11_copy 17 = .ok (.aload_n 0, 1) := by decide +kernel
theorem dX11_copy_18 : decode cX11_copy 18 = .ok (.getfield 10, 3) := by decide +kernel
theorem dX11_copy_21 : decode cX11_copy 21 = .ok (.iload_n 1, 1) := by decide +kernel
theorem dX11_copy_22 : decode cX11_copy 22 = .ok (.invokevirtual 93, 3) := by decide +kernel
theorem dX11_copy_25 : decode cX11_copy 25 = .ok (.ifCond .ne 14, 3) := by decide +kernel
theorem dX11_copy_28 : decode cX11_copy 28 = .ok (.aload_n 0, 1) := by decide +kernel
theorem dX11_copy_29 : decode cX11_copy 29 = .ok (.getfield 10, 3) := by decide +kernel
theorem dX11_copy_32 : decode cX11_copy 32 = .ok (.iload_n 3, 1) := by decide +kernel
theorem dX11_copy_33 : decode cX11_copy 33 = .ok (.invokevirtual 93, 3) := by decide +kernel
theorem dX11_copy_36 : decode cX11_copy 36 = .ok (.ifCond .eq 9, 3) := by decide +kernel
theorem dX11_copy_39 : decode cX11_copy 39 = .ok (.aload_n 0, 1) := by decide +kernel
theorem dX11_copy_40 : decode cX11_copy 40 = .ok (.iconst 1, 1) := by decide +kernel
theorem dX11_copy_41 : decode cX11_copy 41 = .ok (.invokevirtual 85, 3) := by decide +kernel
theorem dX11_copy_44 : decode cX11_copy 44 = .ok (.ireturn, 1) := by decide +kernel
theorem dX11_copy_45 : decode cX11_copy 45 = .ok (.aload_n 0, 1) := by decide +kernel
theorem dX11_copy_46 : decode cX11_copy 46 = .ok (.getfield 10, 3) := by decide +kernel
theorem dX11_copy_49 : decode cX11_copy 49 = .ok (.getfield 104, 3) := by decide +kernel
theorem dX11_copy_52 : decode cX11_copy 52 = .ok (.iload_n 1, 1) := by decide +kernel
theorem dX11_copy_53 : decode cX11_copy 53 = .ok (.iaload, 1) := by decide +kernel
theorem dX11_copy_54 : decode cX11_copy 54 = .ok (.aload_n 0, 1) := by decide +kernel
theorem dX11_copy_55 : decode cX11_copy 55 = .ok (.getfield 10, 3) := by decide +kernel
theorem dX11_copy_58 : decode cX11_copy 58 = .ok (.getfield 104, 3) := by decide +kernel
theorem dX11_copy_61 : decode cX11_copy 61 = .ok (.iload_n 3, 1) := by decide +kernel
theorem dX11_copy_62 : decode cX11_copy 62 = .ok (.iaload, 1) := by decide +kernel
theorem dX11_copy_63 : decode cX11_copy 63 = .ok (.if_icmp .eq 9, 3) := by decide +kernel
theorem dX11_copy_66 : decode cX11_copy 66 = .ok (.aload_n 0, 1) := by decide +kernel
theorem dX11_copy_67 : decode cX11_copy 67 = .ok (.iconst 5, 1) := by decide +kernel
theorem dX11_copy_68 : decode cX11_copy 68 = .ok (.invokevirtual 85, 3) := by decide +kernel
theorem dX11_copy_71 : decode cX11_copy 71 = .ok (.ireturn, 1) := by decide +kernel
theorem dX11_copy_72 : decode cX11_copy 72 = .ok (.aload_n 0, 1) := by decide +kernel
theorem dX11_copy_73 : decode cX11_copy 73 = .ok (.getfield 10, 3) := by decide +kernel
theorem dX11_copy_76 : decode cX11_copy 76 = .ok (.iload_n 1, 1) := by decide +kernel
theorem dX11_copy_77 : decode cX11_copy 77 = .ok (.iload_n 2, 1) := by decide +kernel
theorem dX11_copy_78 : decode cX11_copy 78 = .ok (.iload 5, 2) := by decide +kernel
theorem dX11_copy_80 : decode cX11_copy 80 = .ok (.invokevirtual 96, 3) := by decide +kernel
theorem dX11_copy_83 : decode cX11_copy 83 = .ok (.ifCond .eq 18, 3) := by decide +kernel
theorem dX11_copy_86 : decode cX11_copy 86 = .ok (.aload_n 0, 1) := by decide +kernel
theorem dX11_copy_87 : decode cX11_copy 87 = .ok (.getfield 10, 3) := by decide +kernel
theorem dX11_copy_90 : decode cX11_copy 90 = .ok (.iload_n 3, 1) := by decide +kernel
theorem dX11_copy_91 : decode cX11_copy 91 = .ok (.iload 4, 2) := by decide +kernel
theorem dX11_copy_93 : decode cX11_copy 93 = .ok (.iload 5, 2) := by decide +kernel
theorem dX11_copy_95 : decode cX11_copy 95 = .ok (.invokevirtual 96, 3) := by decide +kernel
theorem dX11_copy_98 : decode cX11_copy 98 = .ok (.ifCond .ne 9, 3) := by decide +kernel
theorem dX11_copy_101 : decode cX11_copy 101 = .ok (.aload_n 0, 1) := by decide +kernel
theorem dX11_copy_102 : decode cX11_copy 102 = .ok (.iconst 2, 1) := by decide +kernel
theorem dX11_copy_103 : decode cX11_copy 103 = .ok (.invokevirtual 85, 3) := by decide +kernel
theorem dX11_copy_106 : decode cX11_copy 106 = .ok (.ireturn, 1) := by decide +kernel
theorem dX11_copy_107 : decode cX11_copy 107 = .ok (.aload_n 0, 1) := by decide +kernel
theorem dX11_copy_108 : decode cX11_copy 108 = .ok (.iconst 0, 1) := by decide +kernel
theorem dX11_copy_109 : decode cX11_copy 109 = .ok (.putfield 77, 3) := by decide +kernel
theorem dX11_copy_112 : decode cX11_copy 112 = .ok (.aload_n 0, 1) := by decide +kernel
theorem dX11_copy_113 : decode cX11_copy 113 = .ok (.getfield 10, 3) := by decide +kernel
theorem dX11_copy_116 : decode cX11_copy 116 = .ok (.getfield 108, 3) := by decide +kernel
theorem dX11_copy_119 : decode cX11_copy 119 = .ok (.iload_n 1, 1) := by decide +kernel
theorem dX11_copy_120 : decode cX11_copy 120 = .ok (.aaload, 1) := by decide +kernel
theorem dX11_copy_121 : decode cX11_copy 121 = .ok (.iload_n 2, 1) := by decide +kernel
theorem dX11_copy_122 : decode cX11_copy 122 = .ok (.aload_n 0, 1) := by decide +kernel
theorem dX11_copy_123 : decode cX11_copy 123 = .ok (.getfield 10, 3) := by decide +kernel
theorem dX11_copy_126 : decode cX11_copy 126 = .ok (.getfield 108, 3) := by decide +kernel
theorem dX11_copy_129 : decode cX11_copy 129 = .ok (.iload_n 3, 1) := by decide +kernel
theorem dX11_copy_130 : decode cX11_copy 130 = .ok (.aaload, 1) := by decide +kernel
theorem dX11_copy_131 : decode cX11_copy 131 = .ok (.iload 4, 2) := by decide +kernel
theorem dX11_copy_133 : decode cX11_copy 133 = .ok (.iload 5, 2) := by decide +kernel
theorem dX11_copy_135 : decode cX11_copy 135 = .ok (.invokestatic 112, 3) := by decide +kernel
theorem dX11_copy_138 : decode cX11_copy 138 = .ok (.iload 5, 2) := by decide +kernel
theorem dX11_copy_140 : decode cX11_copy 140 = .ok (.ireturn, 1) := by decide +kernel
theorem dX11_drop_0 : decode cX11_drop 0 = .ok (.iload_n 1, 1) := by decide +kernel
theorem dX11_drop_1 : decode cX11_drop 1 = .ok (.invokestatic 80, 3) := by decide +kernel
theorem dX11_drop_4 : decode cX11_drop 4 = .ok (.ifCond .ne 6, 3) := by decide +kernel
theorem dX11_drop_7 : decode cX11_drop 7 = .ok (.ldc 84, 2) := by decide +kernel
theorem dX11_drop_9 : decode cX11_drop 9 = .ok (.ireturn, 1) := by decide +kernel
theorem dX11_drop_10 : decode cX11_drop 10 = .ok (.aload_n 0, 1) := by decide +kernel
theorem dX11_drop_11 : decode cX11_drop 11 = .ok (.getfield 10, 3) := by decide +kernel
theorem dX11_drop_14 : decode cX11_drop 14 = .ok (.iload_n 1, 1) := by decide +kernel
theorem dX11_drop_15 : decode cX11_drop 15 = .ok (.invokevirtual 93, 3) := by decide +kernel
theorem dX11_drop_18 : decode cX11_drop 18 = .ok (.ifCond .eq 9, 3) := by decide +kernel
theorem dX11_drop_21 : decode cX11_drop 21 = .ok (.aload_n 0, 1) := by decide +kernel
theorem dX11_drop_22 : decode cX11_drop 22 = .ok (.iconst 1, 1) := by decide +kernel
theorem dX11_drop_23 : decode cX11_drop 23 = .ok (.invokevirtual 85, 3) := by decide +kernel
theorem dX11_drop_26 : decode cX11_drop 26 = .ok (.ireturn, 1) := by decide +kernel
theorem dX11_drop_27 : decode cX11_drop 27 = .ok (.aload_n 0, 1) := by decide +kernel
theorem dX11_drop_28 : decode cX11_drop 28 = .ok (.iconst 0, 1) := by decide +kernel
theorem dX11_drop_29 : decode cX11_drop 29 = .ok (.putfield 77, 3) := by decide +kernel
theorem dX11_drop_32 : decode cX11_drop 32 = .ok (.aload_n 0, 1) := by decide +kernel
theorem dX11_drop_33 : decode cX11_drop 33 = .ok (.getfield 10, 3) := by decide +kernel
theorem dX11_drop_36 : decode cX11_drop 36 = .ok (.iload_n 1, 1) := by decide +kernel
theorem dX11_drop_37 : decode cX11_drop 37 = .ok (.invokevirtual 118, 3) := by decide +kernel
theorem dX11_drop_40 : decode cX11_drop 40 = .ok (.ireturn, 1) := by decide +kernel
theorem dX11_feed_0 : decode cX11_feed 0 = .ok (.iload_n 1, 1) := by decide +kernel
theorem dX11_feed_1 : decode cX11_feed 1 = .ok (.ifCond .lt 10, 3) := by decide +kernel
theorem dX11_feed_4 : decode cX11_feed 4 = .ok (.iload_n 1, 1) := by decide +kernel
theorem dX11_feed_5 : decode cX11_feed 5 = .ok (.sipush 255, 3) := by decide +kernel
theorem dX11_feed_8 : decode cX11_feed 8 = .ok (.if_icmp .le 6, 3) := by decide +kernel
theorem dX11_feed_11 : decode cX11_feed 11 = .ok (.ldc 84, 2) := by decide +kernel
theorem dX11_feed_13 : decode cX11_feed 13 = .ok (.ireturn, 1) := by decide +kernel
theorem dX11_feed_14 : decode cX11_feed 14 = .ok (.aload_n 0, 1) := by decide +kernel
theorem dX11_feed_15 : decode cX11_feed 15 = .ok (.getfield 19, 3) := by decide +kernel
theorem dX11_feed_18 : decode cX11_feed 18 = .ok (.getfield 121, 3) := by decide +kernel
theorem dX11_feed_21 : decode cX11_feed 21 = .ok (.sipush 130, 3) := by decide +kernel
theorem dX11_feed_24 : decode cX11_feed 24 = .ok (.if_icmp .lt 6, 3) := by decide +kernel
theorem dX11_feed_27 : decode cX11_feed 27 = .ok (.ldc 124, 2) := by decide +kernel
theorem dX11_feed_29 : decode cX11_feed 29 = .ok (.ireturn, 1) := by decide +kernel
theorem dX11_feed_30 : decode cX11_feed 30 = .ok (.aload_n 0, 1) := by decide +kernel
theorem dX11_feed_31 : decode cX11_feed 31 = .ok (.getfield 19, 3) := by decide +kernel
theorem dX11_feed_34 : decode cX11_feed 34 = .ok (.iload_n 1, 1) := by decide +kernel
theorem dX11_feed_35 : decode cX11_feed 35 = .ok (.invokevirtual 125, 3) := by decide +kernel
theorem dX11_feed_38 : decode cX11_feed 38 = .ok (.ireturn, 1) := by decide +kernel
theorem dX11_book_0 : decode cX11_book 0 = .ok (.aload_n 0, 1) := by decide +kernel
theorem dX11_book_1 : decode cX11_book 1 = .ok (.getfield 26, 3) := by decide +kernel
theorem dX11_book_4 : decode cX11_book 4 = .ok (.aload_n 0, 1) := by decide +kernel
theorem dX11_book_5 : decode cX11_book 5 = .ok (.getfield 19, 3) := by decide +kernel
theorem dX11_book_8 : decode cX11_book 8 = .ok (.invokevirtual 128, 3) := by decide +kernel
theorem dX11_book_11 : decode cX11_book 11 = .ok (.istore_n 1, 1) := by decide +kernel
theorem dX11_book_12 : decode cX11_book 12 = .ok (.aload_n 0, 1) := by decide +kernel
theorem dX11_book_13 : decode cX11_book 13 = .ok (.getfield 19, 3) := by decide +kernel
theorem dX11_book_16 : decode cX11_book 16 = .ok (.iconst 0, 1) := by decide +kernel
theorem dX11_book_17 : decode cX11_book 17 = .ok (.putfield 121, 3) := by decide +kernel
theorem dX11_book_20 : decode cX11_book 20 = .ok (.iload_n 1, 1) := by decide +kernel
theorem dX11_book_21 : decode cX11_book 21 = .ok (.ifCond .ne 25, 3) := by decide +kernel
theorem dX11_book_24 : decode cX11_book 24 = .ok (.aload_n 0, 1) := by decide +kernel
theorem dX11_book_25 : decode cX11_book 25 = .ok (.aload_n 0, 1) := by decide +kernel
theorem dX11_book_26 : decode cX11_book 26 = .ok (.getfield 26, 3) := by decide +kernel
theorem dX11_book_29 : decode cX11_book 29 = .ok (.getfield 132, 3) := by decide +kernel
theorem dX11_book_32 : decode cX11_book 32 = .ok (.putfield 73, 3) := by decide +kernel
theorem dX11_book_35 : decode cX11_book 35 = .ok (.ldc 135, 2) := by decide +kernel
theorem dX11_book_37 : decode cX11_book 37 = .ok (.aload_n 0, 1) := by decide +kernel
theorem dX11_book_38 : decode cX11_book 38 = .ok (.getfield 26, 3) := by decide +kernel
theorem dX11_book_41 : decode cX11_book 41 = .ok (.getfield 136, 3) := by decide +kernel
theorem dX11_book_44 : decode cX11_book 44 = .ok (.isub, 1) := by decide +kernel
theorem dX11_book_45 : decode cX11_book 45 = .ok (.ireturn, 1) := by decide +kernel
theorem dX11_book_46 : decode cX11_book 46 = .ok (.aload_n 0, 1) := by decide +kernel
theorem dX11_book_47 : decode cX11_book 47 = .ok (.aload_n 0, 1) := by decide +kernel
theorem dX11_book_48 : decode cX11_book 48 = .ok (.getfield 26, 3) := by decide +kernel
theorem dX11_book_51 : decode cX11_book 51 = .ok (.getfield 139, 3) := by decide +kernel
theorem dX11_book_54 : decode cX11_book 54 = .ok (.invokevirtual 142, 3) := by decide +kernel
theorem dX11_book_57 : decode cX11_book 57 = .ok (.aload_n 0, 1) := by decide +kernel
theorem dX11_book_58 : decode cX11_book 58 = .ok (.getfield 33, 3) := by decide +kernel
theorem dX11_book_61 : decode cX11_book 61 = .ok (.getfield 146, 3) := by decide +kernel
theorem dX11_book_64 : decode cX11_book 64 = .ok (.ireturn, 1) := by decide +kernel
theorem dX11_fault_0 : decode cX11_fault 0 = .ok (.aload_n 0, 1) := by decide +kernel
theorem dX11_fault_1 : decode cX11_fault 1 = .ok (.getfield 73, 3) := by decide +kernel
theorem dX11_fault_4 : decode cX11_fault 4 = .ok (.ireturn, 1) := by decide +kernel
theorem dX11_undo_0 : decode cX11_undo 0 = .ok (.aload_n 0, 1) := by decide +kernel
theorem dX11_undo_1 : decode cX11_undo 1 = .ok (.getfield 40, 3) := by decide +kernel
theorem dX11_undo_4 : decode cX11_undo 4 = .ok (.getfield 149, 3) := by decide +kernel
theorem dX11_undo_7 : decode cX11_undo 7 = .ok (.ifCond .ne 6, 3) := by decide +kernel
theorem dX11_undo_10 : decode cX11_undo 10 = .ok (.ldc 152, 2) := by decide +kernel
theorem dX11_undo_12 : decode cX11_undo 12 = .ok (.ireturn, 1) := by decide +kernel
theorem dX11_undo_13 : decode cX11_undo 13 = .ok (.aload_n 0, 1) := by decide +kernel
theorem dX11_undo_14 : decode cX11_undo 14 = .ok (.getfield 40, 3) := by decide +kernel
theorem dX11_undo_17 : decode cX11_undo 17 = .ok (.aload_n 0, 1) := by decide +kernel
theorem dX11_undo_18 : decode cX11_undo 18 = .ok (.getfield 33, 3) := by decide +kernel
theorem dX11_undo_21 : decode cX11_undo 21 = .ok (.invokevirtual 153, 3) := by decide +kernel
theorem dX11_undo_24 : decode cX11_undo 24 = .ok (.aload_n 0, 1) := by decide +kernel
theorem dX11_undo_25 : decode cX11_undo 25 = .ok (.iconst 0, 1) := by decide +kernel
theorem dX11_undo_26 : decode cX11_undo 26 = .ok (.putfield 69, 3) := by decide +kernel
theorem dX11_undo_29 : decode cX11_undo 29 = .ok (.aload_n 0, 1) := by decide +kernel
theorem dX11_undo_30 : decode cX11_undo 30 = .ok (.getfield 40, 3) := by decide +kernel
theorem dX11_undo_33 : decode cX11_undo 33 = .ok (.getfield 149, 3) := by decide +kernel
theorem dX11_undo_36 : decode cX11_undo 36 = .ok (.ireturn, 1) := by decide +kernel
theorem dX11_put_0 : decode cX11_put 0 = .ok (.aload_n 0, 1) := by decide +kernel
theorem dX11_put_1 : decode cX11_put 1 = .ok (.invokevirtual 156, 3) := by decide +kernel
theorem dX11_put_4 : decode cX11_put 4 = .ok (.ifCond .eq 6, 3) := by decide +kernel
theorem dX11_put_7 : decode cX11_put 7 = .ok (.ldc 152, 2) := by decide +kernel
theorem dX11_put_9 : decode cX11_put 9 = .ok (.ireturn, 1) := by decide +kernel
theorem dX11_put_10 : decode cX11_put 10 = .ok (.iload_n 1, 1) := by decide +kernel
theorem dX11_put_11 : decode cX11_put 11 = .ok (.ifCond .lt 44, 3) := by decide +kernel
theorem dX11_put_14 : decode cX11_put 14 = .ok (.iload_n 1, 1) := by decide +kernel
theorem dX11_put_15 : decode cX11_put 15 = .ok (.aload_n 0, 1) := by decide +kernel
theorem dX11_put_16 : decode cX11_put 16 = .ok (.getfield 33, 3) := by decide +kernel
theorem dX11_put_19 : decode cX11_put 19 = .ok (.getfield 146, 3) := by decide +kernel
theorem dX11_put_22 : decode cX11_put 22 = .ok (.if_icmp .gt 33, 3) := by decide +kernel
theorem dX11_put_25 : decode cX11_put 25 = .ok (.iload_n 2, 1) := by decide +kernel
theorem dX11_put_26 : decode cX11_put 26 = .ok (.invokestatic 160, 3) := by decide +kernel
theorem dX11_put_29 : decode cX11_put 29 = .ok (.ifCond .eq 26, 3) := by decide +kernel
theorem dX11_put_32 : decode cX11_put 32 = .ok (.iload_n 3, 1) := by decide +kernel
theorem dX11_put_33 : decode cX11_put 33 = .ok (.invokestatic 163, 3) := by decide +kernel
theorem dX11_put_36 : decode cX11_put 36 = .ok (.ifCond .eq 19, 3) := by decide +kernel
theorem dX11_put_39 : decode cX11_put 39 = .ok (.iload 4, 2) := by decide +kernel
theorem dX11_put_41 : decode cX11_put 41 = .ok (.invokestatic 163, 3) := by decide +kernel
theorem dX11_put_44 : decode cX11_put 44 = .ok (.ifCond .eq 11, 3) := by decide +kernel
theorem dX11_put_47 : decode cX11_put 47 = .ok (.iload 5, 2) := by decide +kernel
theorem dX11_put_49 : decode cX11_put 49 = .ok (.invokestatic 163, 3) := by decide +kernel
theorem dX11_put_52 : decode cX11_put 52 = .ok (.ifCond .ne 6, 3) := by decide +kernel
theorem dX11_put_55 : decode cX11_put 55 = .ok (.ldc 84, 2) := by decide +kernel
theorem dX11_put_57 : decode cX11_put 57 = .ok (.ireturn, 1) := by decide +kernel
theorem dX11_put_58 : decode cX11_put 58 = .ok (.aload_n 0, 1) := by decide +kernel
theorem dX11_put_59 : decode cX11_put 59 = .ok (.getfield 33, 3) := by decide +kernel
theorem dX11_put_62 : decode cX11_put 62 = .ok (.getfield 146, 3) := by decide +kernel
theorem dX11_put_65 : decode cX11_put 65 = .ok (.bipush 10, 2) := by decide +kernel
theorem dX11_put_67 : decode cX11_put 67 = .ok (.if_icmp .lt 6, 3) := by decide +kernel
theorem dX11_put_70 : decode cX11_put 70 = .ok (.ldc 124, 2) := by decide +kernel
theorem dX11_put_72 : decode cX11_put 72 = .ok (.ireturn, 1) := by decide +kernel
theorem dX11_put_73 : decode cX11_put 73 = .ok (.aload_n 0, 1) := by decide +kernel
theorem dX11_put_74 : decode cX11_put 74 = .ok (.invokevirtual 166, 3) := by decide +kernel
theorem dX11_put_77 : decode cX11_put 77 = .ok (.aload_n 0, 1) := by decide +kernel
theorem dX11_put_78 : decode cX11_put 78 = .ok (.getfield 33, 3) := by decide +kernel
theorem dX11_put_81 : decode cX11_put 81 = .ok (.iload_n 1, 1) := by decide +kernel
theorem dX11_put_82 : decode cX11_put 82 = .ok (.iload_n 2, 1) := by decide +kernel
theorem dX11_put_83 : decode cX11_put 83 = .ok (.iload_n 3, 1) := by decide +kernel
theorem dX11_put_84 : decode cX11_put 84 = .ok (.iload 4, 2) := by decide +kernel
theorem dX11_put_86 : decode cX11_put 86 = .ok (.iload 5, 2) := by decide +kernel
theorem dX11_put_88 : decode cX11_put 88 = .ok (.invokevirtual 169, 3) := by decide +kernel
theorem dX11_put_91 : decode cX11_put 91 = .ok (.aload_n 0, 1) := by decide +kernel
theorem dX11_put_92 : decode cX11_put 92 = .ok (.getfield 33, 3) := by decide +kernel
theorem dX11_put_95 : decode cX11_put 95 = .ok (.getfield 146, 3) := by decide +kernel
theorem dX11_put_98 : decode cX11_put 98 = .ok (.ireturn, 1) := by decide +kernel
theorem dX11_take_0 : decode cX11_take 0 = .ok (.aload_n 0, 1) := by decide +kernel
theorem dX11_take_1 : decode cX11_take 1 = .ok (.iload_n 1, 1) := by decide +kernel
theorem dX11_take_2 : decode cX11_take 2 = .ok (.invokevirtual 173, 3) := by decide +kernel
theorem dX11_take_5 : decode cX11_take 5 = .ok (.ifCond .ne 6, 3) := by decide +kernel
theorem dX11_take_8 : decode cX11_take 8 = .ok (.ldc 84, 2) := by decide +kernel
theorem dX11_take_10 : decode cX11_take 10 = .ok (.ireturn, 1) := by decide +kernel
theorem dX11_take_11 : decode cX11_take 11 = .ok (.aload_n 0, 1) := by decide +kernel
theorem dX11_take_12 : decode cX11_take 12 = .ok (.getfield 33, 3) := by decide +kernel
theorem dX11_take_15 : decode cX11_take 15 = .ok (.getfield 146, 3) := by decide +kernel
theorem dX11_take_18 : decode cX11_take 18 = .ok (.iconst 1, 1) := by decide +kernel
theorem dX11_take_19 : decode cX11_take 19 = .ok (.if_icmp .ne 6, 3) := by decide +kernel
theorem dX11_take_22 : decode cX11_take 22 = .ok (.ldc 152, 2) := by decide +kernel
theorem dX11_take_24 : decode cX11_take 24 = .ok (.ireturn, 1) := by decide +kernel
theorem dX11_take_25 : decode cX11_take 25 = .ok (.aload_n 0, 1) := by decide +kernel
theorem dX11_take_26 : decode cX11_take 26 = .ok (.invokevirtual 166, 3) := by decide +kernel
theorem dX11_take_29 : decode cX11_take 29 = .ok (.aload_n 0, 1) := by decide +kernel
theorem dX11_take_30 : decode cX11_take 30 = .ok (.getfield 33, 3) := by decide +kernel
theorem dX11_take_33 : decode cX11_take 33 = .ok (.iload_n 1, 1) := by decide +kernel
theorem dX11_take_34 : decode cX11_take 34 = .ok (.invokevirtual 176, 3) := by decide +kernel
theorem dX11_take_37 : decode cX11_take 37 = .ok (.aload_n 0, 1) := by decide +kernel
theorem dX11_take_38 : decode cX11_take 38 = .ok (.getfield 33, 3) := by decide +kernel
theorem dX11_take_41 : decode cX11_take 41 = .ok (.getfield 146, 3) := by decide +kernel
theorem dX11_take_44 : decode cX11_take 44 = .ok (.ireturn, 1) := by decide +kernel
theorem dX11_move_0 : decode cX11_move 0 = .ok (.aload_n 0, 1) := by decide +kernel
theorem dX11_move_1 : decode cX11_move 1 = .ok (.iload_n 1, 1) := by decide +kernel
theorem dX11_move_2 : decode cX11_move 2 = .ok (.invokevirtual 173, 3) := by decide +kernel
theorem dX11_move_5 : decode cX11_move 5 = .ok (.ifCond .eq 11, 3) := by decide +kernel
theorem dX11_move_8 : decode cX11_move 8 = .ok (.aload_n 0, 1) := by decide +kernel
theorem dX11_move_9 : decode cX11_move 9 = .ok (.iload_n 2, 1) := by decide +kernel
theorem dX11_move_10 : decode cX11_move 10 = .ok (.invokevirtual 173, 3) := by decide +kernel
theorem dX11_move_13 : decode cX11_move 13 = .ok (.ifCond .ne 6, 3) := by decide +kernel
theorem dX11_move_16 : decode cX11_move 16 = .ok (.ldc 84, 2) := by decide +kernel
theorem dX11_move_18 : decode cX11_move 18 = .ok (.ireturn, 1) := by decide +kernel
theorem dX11_move_19 : decode cX11_move 19 = .ok (.iload_n 1, 1) := by decide +kernel
theorem dX11_move_20 : decode cX11_move 20 = .ok (.iload_n 2, 1) := by decide +kernel
theorem dX11_move_21 : decode cX11_move 21 = .ok (.if_icmp .ne 6, 3) := by decide +kernel
theorem dX11_move_24 : decode cX11_move 24 = .ok (.ldc 152, 2) := by decide +kernel
theorem dX11_move_26 : decode cX11_move 26 = .ok (.ireturn, 1) := by decide +kernel
theorem dX11_move_27 : decode cX11_move 27 = .ok (.aload_n 0, 1) := by decide +kernel
theorem dX11_move_28 : decode cX11_move 28 = .ok (.invokevirtual 166, 3) := by decide +kernel
theorem dX11_move_31 : decode cX11_move 31 = .ok (.aload_n 0, 1) := by decide +kernel
theorem dX11_move_32 : decode cX11_move 32 = .ok (.getfield 33, 3) := by decide +kernel
theorem dX11_move_35 : decode cX11_move 35 = .ok (.iload_n 1, 1) := by decide +kernel
theorem dX11_move_36 : decode cX11_move 36 = .ok (.iload_n 2, 1) := by decide +kernel
theorem dX11_move_37 : decode cX11_move 37 = .ok (.invokevirtual 180, 3) := by decide +kernel
theorem dX11_move_40 : decode cX11_move 40 = .ok (.aload_n 0, 1) := by decide +kernel
theorem dX11_move_41 : decode cX11_move 41 = .ok (.getfield 33, 3) := by decide +kernel
theorem dX11_move_44 : decode cX11_move 44 = .ok (.getfield 184, 3) := by decide +kernel
theorem dX11_move_47 : decode cX11_move 47 = .ok (.iload_n 2, 1) := by decide +kernel
theorem dX11_move_48 : decode cX11_move 48 = .ok (.iaload, 1) := by decide +kernel
theorem dX11_move_49 : decode cX11_move 49 = .ok (.ireturn, 1) := by decide +kernel
theorem dX11_measure_0 : decode cX11_measure 0 = .ok (.aload_n 0, 1) := by decide +kernel
theorem dX11_measure_1 : decode cX11_measure 1 = .ok (.iload_n 1, 1) := by decide +kernel
theorem dX11_measure_2 : decode cX11_measure 2 = .ok (.invokevirtual 173, 3) := by decide +kernel
theorem dX11_measure_5 : decode cX11_measure 5 = .ok (.ifCond .eq 19, 3) := by decide +kernel
theorem dX11_measure_8 : decode cX11_measure 8 = .ok (.iload_n 2, 1) := by decide +kernel
theorem dX11_measure_9 : decode cX11_measure 9 = .ok (.ifCond .lt 15, 3) := by decide +kernel
theorem dX11_measure_12 : decode cX11_measure 12 = .ok (.iload_n 2, 1) := by decide +kernel
theorem dX11_measure_13 : decode cX11_measure 13 = .ok (.iconst 2, 1) := by decide +kernel
theorem dX11_measure_14 : decode cX11_measure 14 = .ok (.if_icmp .gt 10, 3) := by decide +kernel
theorem dX11_measure_17 : decode cX11_measure 17 = .ok (.iload_n 3, 1) := by decide +kernel
theorem dX11_measure_18 : decode cX11_measure 18 = .ok (.invokestatic 163, 3) := by decide +kernel
theorem dX11_measure_21 : decode cX11_measure 21 = .ok (.ifCond .ne 6, 3) := by decide +kernel
theorem dX11_measure_24 : decode cX11_measure 24 = .ok (.ldc 84, 2) := by decide +kernel
theorem dX11_measure_26 : decode cX11_measure 26 = .ok (.ireturn, 1) := by decide +kernel
theorem dX11_measure_27 : decode cX11_measure 27 = .ok (.aload_n 0, 1) := by decide +kernel
theorem dX11_measure_28 : decode cX11_measure 28 = .ok (.invokevirtual 166, 3) := by decide +kernel
theorem dX11_measure_31 : decode cX11_measure 31 = .ok (.aload_n 0, 1) := by decide +kernel
theorem dX11_measure_32 : decode cX11_measure 32 = .ok (.getfield 33, 3) := by decide +kernel
theorem dX11_measure_35 : decode cX11_measure 35 = .ok (.getfield 187, 3) := by decide +kernel
theorem dX11_measure_38 : decode cX11_measure 38 = .ok (.iload_n 2, 1) := by decide +kernel
theorem dX11_measure_39 : decode cX11_measure 39 = .ok (.aaload, 1) := by decide +kernel
theorem dX11_measure_40 : decode cX11_measure 40 = .ok (.iload_n 1, 1) := by decide +kernel
theorem dX11_measure_41 : decode cX11_measure 41 = .ok (.iaload, 1) := by decide +kernel
theorem dX11_measure_42 : decode cX11_measure 42 = .ok (.istore 4, 2) := by decide +kernel
theorem dX11_measure_44 : decode cX11_measure 44 = .ok (.aload_n 0, 1) := by decide +kernel
theorem dX11_measure_45 : decode cX11_measure 45 = .ok (.getfield 33, 3) := by decide +kernel
theorem dX11_measure_48 : decode cX11_measure 48 = .ok (.getfield 187, 3) := by decide +kernel
theorem dX11_measure_51 : decode cX11_measure 51 = .ok (.iload_n 2, 1) := by decide +kernel
theorem dX11_measure_52 : decode cX11_measure 52 = .ok (.aaload, 1) := by decide +kernel
theorem dX11_measure_53 : decode cX11_measure 53 = .ok (.iload_n 1, 1) := by decide +kernel
theorem dX11_measure_54 : decode cX11_measure 54 = .ok (.iload_n 3, 1) := by decide +kernel
theorem dX11_measure_55 : decode cX11_measure 55 = .ok (.iastore, 1) := by decide +kernel
theorem dX11_measure_56 : decode cX11_measure 56 = .ok (.iload 4, 2) := by decide +kernel
theorem dX11_measure_58 : decode cX11_measure 58 = .ok (.ireturn, 1) := by decide +kernel
theorem dX11_become_0 : decode cX11_become 0 = .ok (.aload_n 0, 1) := by decide +kernel
theorem dX11_become_1 : decode cX11_become 1 = .ok (.iload_n 1, 1) := by decide +kernel
theorem dX11_become_2 : decode cX11_become 2 = .ok (.invokevirtual 173, 3) := by decide +kernel
theorem dX11_become_5 : decode cX11_become 5 = .ok (.ifCond .eq 10, 3) := by decide +kernel
theorem dX11_become_8 : decode cX11_become 8 = .ok (.iload_n 2, 1) := by decide +kernel
theorem dX11_become_9 : decode cX11_become 9 = .ok (.invokestatic 160, 3) := by decide +kernel
theorem dX11_become_12 : decode cX11_become 12 = .ok (.ifCond .ne 6, 3) := by decide +kernel
theorem dX11_become_15 : decode cX11_become 15 = .ok (.ldc 84, 2) := by decide +kernel
theorem dX11_become_17 : decode cX11_become 17 = .ok (.ireturn, 1) := by decide +kernel
theorem dX11_become_18 : decode cX11_become 18 = .ok (.aload_n 0, 1) := by decide +kernel
theorem dX11_become_19 : decode cX11_become 19 = .ok (.getfield 33, 3) := by decide +kernel
theorem dX11_become_22 : decode cX11_become 22 = .ok (.getfield 184, 3) := by decide +kernel
theorem dX11_become_25 : decode cX11_become 25 = .ok (.iload_n 1, 1) := by decide +kernel
theorem dX11_become_26 : decode cX11_become 26 = .ok (.iaload, 1) := by decide +kernel
theorem dX11_become_27 : decode cX11_become 27 = .ok (.istore_n 3, 1) := by decide +kernel
theorem dX11_become_28 : decode cX11_become 28 = .ok (.iload_n 3, 1) := by decide +kernel
theorem dX11_become_29 : decode cX11_become 29 = .ok (.iload_n 2, 1) := by decide +kernel
theorem dX11_become_30 : decode cX11_become 30 = .ok (.if_icmp .ne 6, 3) := by decide +kernel
theorem dX11_become_33 : decode cX11_become 33 = .ok (.ldc 152, 2) := by decide +kernel
theorem dX11_become_35 : decode cX11_become 35 = .ok (.ireturn, 1) := by decide +kernel
theorem dX11_become_36 : decode cX11_become 36 = .ok (.aload_n 0, 1) := by decide +kernel
theorem dX11_become_37 : decode cX11_become 37 = .ok (.invokevirtual 166, 3) := by decide +kernel
theorem dX11_become_40 : decode cX11_become 40 = .ok (.aload_n 0, 1) := by decide +kernel
theorem dX11_become_41 : decode cX11_become 41 = .ok (.getfield 33, 3) := by decide +kernel
theorem dX11_become_44 : decode cX11_become 44 = .ok (.getfield 184, 3) := by decide +kernel
theorem dX11_become_47 : decode cX11_become 47 = .ok (.iload_n 1, 1) := by decide +kernel
theorem dX11_become_48 : decode cX11_become 48 = .ok (.iload_n 2, 1) := by decide +kernel
theorem dX11_become_49 : decode cX11_become 49 = .ok (.iastore, 1) := by decide +kernel
theorem dX11_become_50 : decode cX11_become 50 = .ok (.iload_n 3, 1) := by decide +kernel
theorem dX11_become_51 : decode cX11_become 51 = .ok (.ireturn, 1) := by decide +kernel
theorem dX11_law_0 : decode cX11_law 0 = .ok (.aload_n 0, 1) := by decide +kernel
theorem dX11_law_1 : decode cX11_law 1 = .ok (.invokevirtual 156, 3) := by decide +kernel
theorem dX11_law_4 : decode cX11_law 4 = .ok (.ifCond .eq 6, 3) := by decide +kernel
theorem dX11_law_7 : decode cX11_law 7 = .ok (.ldc 152, 2) := by decide +kernel
theorem dX11_law_9 : decode cX11_law 9 = .ok (.ireturn, 1) := by decide +kernel
theorem dX11_law_10 : decode cX11_law 10 = .ok (.iload_n 1, 1) := by decide +kernel
theorem dX11_law_11 : decode cX11_law 11 = .ok (.ifCond .lt 27, 3) := by decide +kernel
theorem dX11_law_14 : decode cX11_law 14 = .ok (.iload_n 1, 1) := by decide +kernel
theorem dX11_law_15 : decode cX11_law 15 = .ok (.iconst 1, 1) := by decide +kernel
theorem dX11_law_16 : decode cX11_law 16 = .ok (.if_icmp .gt 22, 3) := by decide +kernel
theorem dX11_law_19 : decode cX11_law 19 = .ok (.iload_n 2, 1) := by decide +kernel
theorem dX11_law_20 : decode cX11_law 20 = .ok (.ifCond .lt 18, 3) := by decide +kernel
theorem dX11_law_23 : decode cX11_law 23 = .ok (.iload_n 2, 1) := by decide +kernel
theorem dX11_law_24 : decode cX11_law 24 = .ok (.iload_n 1, 1) := by decide +kernel
theorem dX11_law_25 : decode cX11_law 25 = .ok (.ifCond .ne 8, 3) := by decide +kernel
theorem dX11_law_28 : decode cX11_law 28 = .ok (.bipush 60, 2) := by decide +kernel
theorem dX11_law_30 : decode cX11_law 30 = .ok (.goto 5, 3) := by decide +kernel
theorem dX11_law_33 : decode cX11_law 33 = .ok (.bipush 20, 2) := by decide +kernel
theorem dX11_law_35 : decode cX11_law 35 = .ok (.if_icmp .le 6, 3) := by decide +kernel
theorem dX11_law_38 : decode cX11_law 38 = .ok (.ldc 84, 2) := by decide +kernel
theorem dX11_law_40 : decode cX11_law 40 = .ok (.ireturn, 1) := by decide +kernel
theorem dX11_law_41 : decode cX11_law 41 = .ok (.aload_n 0, 1) := by decide +kernel
theorem dX11_law_42 : decode cX11_law 42 = .ok (.invokevirtual 166, 3) := by decide +kernel
theorem dX11_law_45 : decode cX11_law 45 = .ok (.iload_n 1, 1) := by decide +kernel
theorem dX11_law_46 : decode cX11_law 46 = .ok (.ifCond .ne 13, 3) := by decide +kernel
theorem dX11_law_49 : decode cX11_law 49 = .ok (.aload_n 0, 1) := by decide +kernel
theorem dX11_law_50 : decode cX11_law 50 = .ok (.getfield 33, 3) := by decide +kernel
theorem dX11_law_53 : decode cX11_law 53 = .ok (.getfield 190, 3) := by decide +kernel
theorem dX11_law_56 : decode cX11_law 56 = .ok (.goto 10, 3) := by decide +kernel
theorem dX11_law_59 : decode cX11_law 59 = .ok (.aload_n 0, 1) := by decide +kernel
theorem dX11_law_60 : decode cX11_law 60 = .ok (.getfield 33, 3) := by decide +kernel
theorem dX11_law_63 : decode cX11_law 63 = .ok (.getfield 193, 3) := by decide +kernel
theorem dX11_law_66 : decode cX11_law 66 = .ok (.istore_n 3, 1) := by decide +kernel
theorem dX11_law_67 : decode cX11_law 67 = .ok (.iload_n 1, 1) := by decide +kernel
theorem dX11_law_68 : decode cX11_law 68 = .ok (.ifCond .ne 14, 3) := by decide +kernel
theorem dX11_law_71 : decode cX11_law 71 = .ok (.aload_n 0, 1) := by decide +kernel
theorem dX11_law_72 : decode cX11_law 72 = .ok (.getfield 33, 3) := by decide +kernel
theorem dX11_law_75 : decode cX11_law 75 = .ok (.iload_n 2, 1) := by decide +kernel
theorem dX11_law_76 : decode cX11_law 76 = .ok (.putfield 190, 3) := by decide +kernel
theorem dX11_law_79 : decode cX11_law 79 = .ok (.goto 11, 3) := by decide +kernel
theorem dX11_law_82 : decode cX11_law 82 = .ok (.aload_n 0, 1) := by decide +kernel
theorem dX11_law_83 : decode cX11_law 83 = .ok (.getfield 33, 3) := by decide +kernel
theorem dX11_law_86 : decode cX11_law 86 = .ok (.iload_n 2, 1) := by decide +kernel
theorem dX11_law_87 : decode cX11_law 87 = .ok (.putfield 193, 3) := by decide +kernel
theorem dX11_law_90 : decode cX11_law 90 = .ok (.iload_n 3, 1) := by decide +kernel
theorem dX11_law_91 : decode cX11_law 91 = .ok (.ireturn, 1) := by decide +kernel
theorem dX11_page_0 : decode cX11_page 0 = .ok (.aload_n 0, 1) := by decide +kernel
theorem dX11_page_1 : decode cX11_page 1 = .ok (.iload_n 1, 1) := by decide +kernel
theorem dX11_page_2 : decode cX11_page 2 = .ok (.invokevirtual 173, 3) := by decide +kernel
theorem dX11_page_5 : decode cX11_page 5 = .ok (.ifCond .eq 13, 3) := by decide +kernel
theorem dX11_page_8 : decode cX11_page 8 = .ok (.iload_n 2, 1) := by decide +kernel
theorem dX11_page_9 : decode cX11_page 9 = .ok (.ifCond .lt 9, 3) := by decide +kernel
theorem dX11_page_12 : decode cX11_page 12 = .ok (.iload_n 2, 1) := by decide +kernel
theorem dX11_page_13 : decode cX11_page 13 = .ok (.bipush 6, 2) := by decide +kernel
theorem dX11_page_15 : decode cX11_page 15 = .ok (.if_icmp .le 6, 3) := by decide +kernel
theorem dX11_page_18 : decode cX11_page 18 = .ok (.ldc 84, 2) := by decide +kernel
theorem dX11_page_20 : decode cX11_page 20 = .ok (.ireturn, 1) := by decide +kernel
theorem dX11_page_21 : decode cX11_page 21 = .ok (.iload_n 2, 1) := by decide +kernel
theorem dX11_page_22 : decode cX11_page 22 = .ok (.iconst 2, 1) := by decide +kernel
theorem dX11_page_23 : decode cX11_page 23 = .ok (.if_icmp .gt 15, 3) := by decide +kernel
theorem dX11_page_26 : decode cX11_page 26 = .ok (.aload_n 0, 1) := by decide +kernel
theorem dX11_page_27 : decode cX11_page 27 = .ok (.getfield 33, 3) := by decide +kernel
theorem dX11_page_30 : decode cX11_page 30 = .ok (.getfield 187, 3) := by decide +kernel
theorem dX11_page_33 : decode cX11_page 33 = .ok (.iload_n 2, 1) := by decide +kernel
theorem dX11_page_34 : decode cX11_page 34 = .ok (.aaload, 1) := by decide +kernel
theorem dX11_page_35 : decode cX11_page 35 = .ok (.iload_n 1, 1) := by decide +kernel
theorem dX11_page_36 : decode cX11_page 36 = .ok (.iaload, 1) := by decide +kernel
theorem dX11_page_37 : decode cX11_page 37 = .ok (.ireturn, 1) := by decide +kernel
theorem dX11_page_38 : decode cX11_page 38 = .ok (.aload_n 0, 1) := by decide +kernel
theorem dX11_page_39 : decode cX11_page 39 = .ok (.invokevirtual 196, 3) := by decide +kernel
theorem dX11_page_42 : decode cX11_page 42 = .ok (.iload_n 2, 1) := by decide +kernel
theorem dX11_page_43 : decode cX11_page 43 = .ok (.tableswitch 60 3 5 #[25, 35, 48], 25) := by decide +kernel
theorem dX11_page_68 : decode cX11_page 68 = .ok (.aload_n 0, 1) := by decide +kernel
theorem dX11_page_69 : decode cX11_page 69 = .ok (.getfield 51, 3) := by decide +kernel
theorem dX11_page_72 : decode cX11_page 72 = .ok (.getfield 199, 3) := by decide +kernel
theorem dX11_page_75 : decode cX11_page 75 = .ok (.iload_n 1, 1) := by decide +kernel
theorem dX11_page_76 : decode cX11_page 76 = .ok (.iaload, 1) := by decide +kernel
theorem dX11_page_77 : decode cX11_page 77 = .ok (.ireturn, 1) := by decide +kernel
theorem dX11_page_78 : decode cX11_page 78 = .ok (.aload_n 0, 1) := by decide +kernel
theorem dX11_page_79 : decode cX11_page 79 = .ok (.getfield 51, 3) := by decide +kernel
theorem dX11_page_82 : decode cX11_page 82 = .ok (.getfield 202, 3) := by decide +kernel
theorem dX11_page_85 : decode cX11_page 85 = .ok (.getfield 206, 3) := by decide +kernel
theorem dX11_page_88 : decode cX11_page 88 = .ok (.iload_n 1, 1) := by decide +kernel
theorem dX11_page_89 : decode cX11_page 89 = .ok (.iaload, 1) := by decide +kernel
theorem dX11_page_90 : decode cX11_page 90 = .ok (.ireturn, 1) := by decide +kernel
theorem dX11_page_91 : decode cX11_page 91 = .ok (.aload_n 0, 1) := by decide +kernel
theorem dX11_page_92 : decode cX11_page 92 = .ok (.getfield 51, 3) := by decide +kernel
theorem dX11_page_95 : decode cX11_page 95 = .ok (.getfield 211, 3) := by decide +kernel
theorem dX11_page_98 : decode cX11_page 98 = .ok (.iload_n 1, 1) := by decide +kernel
theorem dX11_page_99 : decode cX11_page 99 = .ok (.ishr, 1) := by decide +kernel
theorem dX11_page_100 : decode cX11_page 100 = .ok (.iconst 1, 1) := by decide +kernel
theorem dX11_page_101 : decode cX11_page 101 = .ok (.iand, 1) := by decide +kernel
theorem dX11_page_102 : decode cX11_page 102 = .ok (.ireturn, 1) := by decide +kernel
theorem dX11_page_103 : decode cX11_page 103 = .ok (.aload_n 0, 1) := by decide +kernel
theorem dX11_page_104 : decode cX11_page 104 = .ok (.getfield 51, 3) := by decide +kernel
theorem dX11_page_107 : decode cX11_page 107 = .ok (.getfield 214, 3) := by decide +kernel
theorem dX11_page_110 : decode cX11_page 110 = .ok (.getfield 218, 3) := by decide +kernel
theorem dX11_page_113 : decode cX11_page 113 = .ok (.iload_n 1, 1) := by decide +kernel
theorem dX11_page_114 : decode cX11_page 114 = .ok (.iaload, 1) := by decide +kernel
theorem dX11_page_115 : decode cX11_page 115 = .ok (.ireturn, 1) := by decide +kernel
theorem dX11_apart_0 : decode cX11_apart 0 = .ok (.aload_n 0, 1) := by decide +kernel
theorem dX11_apart_1 : decode cX11_apart 1 = .ok (.iload_n 1, 1) := by decide +kernel
theorem dX11_apart_2 : decode cX11_apart 2 = .ok (.invokevirtual 173, 3) := by decide +kernel
theorem dX11_apart_5 : decode cX11_apart 5 = .ok (.ifCond .eq 16, 3) := by decide +kernel
theorem dX11_apart_8 : decode cX11_apart 8 = .ok (.aload_n 0, 1) := by decide +kernel
theorem dX11_apart_9 : decode cX11_apart 9 = .ok (.iload_n 2, 1) := by decide +kernel
theorem dX11_apart_10 : decode cX11_apart 10 = .ok (.invokevirtual 173, 3) := by decide +kernel
theorem dX11_apart_13 : decode cX11_apart 13 = .ok (.ifCond .eq 8, 3) := by decide +kernel
theorem dX11_apart_16 : decode cX11_apart 16 = .ok (.iload_n 1, 1) := by decide +kernel
theorem dX11_apart_17 : decode cX11_apart 17 = .ok (.iload_n 2, 1) := by decide +kernel
theorem dX11_apart_18 : decode cX11_apart 18 = .ok (.if_icmp .ne 6, 3) := by decide +kernel
theorem dX11_apart_21 : decode cX11_apart 21 = .ok (.ldc 84, 2) := by decide +kernel
theorem dX11_apart_23 : decode cX11_apart 23 = .ok (.ireturn, 1) := by decide +kernel
theorem dX11_apart_24 : decode cX11_apart 24 = .ok (.aload_n 0, 1) := by decide +kernel
theorem dX11_apart_25 : decode cX11_apart 25 = .ok (.invokevirtual 196, 3) := by decide +kernel
theorem dX11_apart_28 : decode cX11_apart 28 = .ok (.aload_n 0, 1) := by decide +kernel
theorem dX11_apart_29 : decode cX11_apart 29 = .ok (.getfield 51, 3) := by decide +kernel
theorem dX11_apart_32 : decode cX11_apart 32 = .ok (.getfield 202, 3) := by decide +kernel
theorem dX11_apart_35 : decode cX11_apart 35 = .ok (.getfield 223, 3) := by decide +kernel
theorem dX11_apart_38 : decode cX11_apart 38 = .ok (.getfield 227, 3) := by decide +kernel
theorem dX11_apart_41 : decode cX11_apart 41 = .ok (.iload_n 1, 1) := by decide +kernel
theorem dX11_apart_42 : decode cX11_apart 42 = .ok (.aaload, 1) := by decide +kernel
theorem dX11_apart_43 : decode cX11_apart 43 = .ok (.iload_n 2, 1) := by decide +kernel
theorem dX11_apart_44 : decode cX11_apart 44 = .ok (.iaload, 1) := by decide +kernel
theorem dX11_apart_45 : decode cX11_apart 45 = .ok (.ireturn, 1) := by decide +kernel
theorem dX11_spread_0 : decode cX11_spread 0 = .ok (.aload_n 0, 1) := by decide +kernel
theorem dX11_spread_1 : decode cX11_spread 1 = .ok (.invokevirtual 156, 3) := by decide +kernel
theorem dX11_spread_4 : decode cX11_spread 4 = .ok (.ifCond .eq 6, 3) := by decide +kernel
theorem dX11_spread_7 : decode cX11_spread 7 = .ok (.ldc 152, 2) := by decide +kernel
theorem dX11_spread_9 : decode cX11_spread 9 = .ok (.ireturn, 1) := by decide +kernel
theorem dX11_spread_10 : decode cX11_spread 10 = .ok (.iload_n 1, 1) := by decide +kernel
theorem dX11_spread_11 : decode cX11_spread 11 = .ok (.iconst 1, 1) := by decide +kernel
theorem dX11_spread_12 : decode cX11_spread 12 = .ok (.if_icmp .lt 16, 3) := by decide +kernel
theorem dX11_spread_15 : decode cX11_spread 15 = .ok (.iload_n 1, 1) := by decide +kernel
theorem dX11_spread_16 : decode cX11_spread 16 = .ok (.iconst 1, 1) := by decide +kernel
theorem dX11_spread_17 : decode cX11_spread 17 = .ok (.aload_n 0, 1) := by decide +kernel
theorem dX11_spread_18 : decode cX11_spread 18 = .ok (.getfield 33, 3) := by decide +kernel
theorem dX11_spread_21 : decode cX11_spread 21 = .ok (.getfield 146, 3) := by decide +kernel
theorem dX11_spread_24 : decode cX11_spread 24 = .ok (.ishl, 1) := by decide +kernel
theorem dX11_spread_25 : decode cX11_spread 25 = .ok (.if_icmp .lt 6, 3) := by decide +kernel
theorem dX11_spread_28 : decode cX11_spread 28 = .ok (.ldc 84, 2) := by decide +kernel
theorem dX11_spread_30 : decode cX11_spread 30 = .ok (.ireturn, 1) := by decide +kernel
theorem dX11_spread_31 : decode cX11_spread 31 = .ok (.aload_n 0, 1) := by decide +kernel
theorem dX11_spread_32 : decode cX11_spread 32 = .ok (.invokevirtual 196, 3) := by decide +kernel
theorem dX11_spread_35 : decode cX11_spread 35 = .ok (.aload_n 0, 1) := by decide +kernel
theorem dX11_spread_36 : decode cX11_spread 36 = .ok (.getfield 51, 3) := by decide +kernel
theorem dX11_spread_39 : decode cX11_spread 39 = .ok (.getfield 202, 3) := by decide +kernel
theorem dX11_spread_42 : decode cX11_spread 42 = .ok (.getfield 223, 3) := by decide +kernel
theorem dX11_spread_45 : decode cX11_spread 45 = .ok (.iload_n 1, 1) := by decide +kernel
theorem dX11_spread_46 : decode cX11_spread 46 = .ok (.invokevirtual 232, 3) := by decide +kernel
theorem dX11_spread_49 : decode cX11_spread 49 = .ok (.ireturn, 1) := by decide +kernel
theorem dX11_whole_0 : decode cX11_whole 0 = .ok (.aload_n 0, 1) := by decide +kernel
theorem dX11_whole_1 : decode cX11_whole 1 = .ok (.invokevirtual 156, 3) := by decide +kernel
theorem dX11_whole_4 : decode cX11_whole 4 = .ok (.ifCond .eq 6, 3) := by decide +kernel
theorem dX11_whole_7 : decode cX11_whole 7 = .ok (.ldc 152, 2) := by decide +kernel
theorem dX11_whole_9 : decode cX11_whole 9 = .ok (.ireturn, 1) := by decide +kernel
theorem dX11_whole_10 : decode cX11_whole 10 = .ok (.iload_n 1, 1) := by decide +kernel
theorem dX11_whole_11 : decode cX11_whole 11 = .ok (.ifCond .lt 9, 3) := by decide +kernel
theorem dX11_whole_14 : decode cX11_whole 14 = .ok (.iload_n 1, 1) := by decide +kernel
theorem dX11_whole_15 : decode cX11_whole 15 = .ok (.bipush 8, 2) := by decide +kernel
theorem dX11_whole_17 : decode cX11_whole 17 = .ok (.if_icmp .le 6, 3) := by decide +kernel
theorem dX11_whole_20 : decode cX11_whole 20 = .ok (.ldc 84, 2) := by decide +kernel
theorem dX11_whole_22 : decode cX11_whole 22 = .ok (.ireturn, 1) := by decide +kernel
theorem dX11_whole_23 : decode cX11_whole 23 = .ok (.aload_n 0, 1) := by decide +kernel
theorem dX11_whole_24 : decode cX11_whole 24 = .ok (.invokevirtual 196, 3) := by decide +kernel
theorem dX11_whole_27 : decode cX11_whole 27 = .ok (.aload_n 0, 1) := by decide +kernel
theorem dX11_whole_28 : decode cX11_whole 28 = .ok (.iload_n 1, 1) := by decide +kernel
theorem dX11_whole_29 : decode cX11_whole 29 = .ok (.invokevirtual 235, 3) := by decide +kernel
theorem dX11_whole_32 : decode cX11_whole 32 = .ok (.ireturn, 1) := by decide +kernel
theorem dX11_hand_0 : decode cX11_hand 0 = .ok (.aload_n 0, 1) := by decide +kernel
theorem dX11_hand_1 : decode cX11_hand 1 = .ok (.invokevirtual 196, 3) := by decide +kernel
theorem dX11_hand_4 : decode cX11_hand 4 = .ok (.iload_n 1, 1) := by decide +kernel
theorem dX11_hand_5 : decode cX11_hand 5 = .ok (.ifCond .lt 26, 3) := by decide +kernel
theorem dX11_hand_8 : decode cX11_hand 8 = .ok (.iload_n 1, 1) := by decide +kernel
theorem dX11_hand_9 : decode cX11_hand 9 = .ok (.aload_n 0, 1) := by decide +kernel
theorem dX11_hand_10 : decode cX11_hand 10 = .ok (.getfield 51, 3) := by decide +kernel
theorem dX11_hand_13 : decode cX11_hand 13 = .ok (.getfield 202, 3) := by decide +kernel
theorem dX11_hand_16 : decode cX11_hand 16 = .ok (.getfield 238, 3) := by decide +kernel
theorem dX11_hand_19 : decode cX11_hand 19 = .ok (.if_icmp .ge 12, 3) := by decide +kernel
theorem dX11_hand_22 : decode cX11_hand 22 = .ok (.iload_n 2, 1) := by decide +kernel
theorem dX11_hand_23 : decode cX11_hand 23 = .ok (.ifCond .lt 8, 3) := by decide +kernel
theorem dX11_hand_26 : decode cX11_hand 26 = .ok (.iload_n 2, 1) := by decide +kernel
theorem dX11_hand_27 : decode cX11_hand 27 = .ok (.iconst 2, 1) := by decide +kernel
theorem dX11_hand_28 : decode cX11_hand 28 = .ok (.if_icmp .le 6, 3) := by decide +kernel
theorem dX11_hand_31 : decode cX11_hand 31 = .ok (.ldc 84, 2) := by decide +kernel
theorem dX11_hand_33 : decode cX11_hand 33 = .ok (.ireturn, 1) := by decide +kernel
theorem dX11_hand_34 : decode cX11_hand 34 = .ok (.aload_n 0, 1) := by decide +kernel
theorem dX11_hand_35 : decode cX11_hand 35 = .ok (.getfield 51, 3) := by decide +kernel
theorem dX11_hand_38 : decode cX11_hand 38 = .ok (.getfield 202, 3) := by decide +kernel
theorem dX11_hand_41 : decode cX11_hand 41 = .ok (.getfield 239, 3) := by decide +kernel
theorem dX11_hand_44 : decode cX11_hand 44 = .ok (.iload_n 1, 1) := by decide +kernel
theorem dX11_hand_45 : decode cX11_hand 45 = .ok (.iaload, 1) := by decide +kernel
theorem dX11_hand_46 : decode cX11_hand 46 = .ok (.istore_n 3, 1) := by decide +kernel
theorem dX11_hand_47 : decode cX11_hand 47 = .ok (.iload_n 2, 1) := by decide +kernel
theorem dX11_hand_48 : decode cX11_hand 48 = .ok (.lookupswitch 45 #[(0, 28), (1, 30)], 28) := by decide +kernel
theorem dX11_hand_76 : decode cX11_hand 76 = .ok (.iload_n 3, 1) := by decide +kernel
theorem dX11_hand_77 : decode cX11_hand 77 = .ok (.ireturn, 1) := by decide +kernel
theorem dX11_hand_78 : decode cX11_hand 78 = .ok (.aload_n 0, 1) := by decide +kernel
theorem dX11_hand_79 : decode cX11_hand 79 = .ok (.getfield 51, 3) := by decide +kernel
theorem dX11_hand_82 : decode cX11_hand 82 = .ok (.getfield 202, 3) := by decide +kernel
theorem dX11_hand_85 : decode cX11_hand 85 = .ok (.getfield 223, 3) := by decide +kernel
theorem dX11_hand_88 : decode cX11_hand 88 = .ok (.iload_n 3, 1) := by decide +kernel
theorem dX11_hand_89 : decode cX11_hand 89 = .ok (.invokevirtual 232, 3) := by decide +kernel
theorem dX11_hand_92 : decode cX11_hand 92 = .ok (.ireturn, 1) := by decide +kernel
theorem dX11_hand_93 : decode cX11_hand 93 = .ok (.aload_n 0, 1) := by decide +kernel
theorem dX11_hand_94 : decode cX11_hand 94 = .ok (.getfield 51, 3) := by decide +kernel
theorem dX11_hand_97 : decode cX11_hand 97 = .ok (.getfield 202, 3) := by decide +kernel
theorem dX11_hand_100 : decode cX11_hand 100 = .ok (.getfield 223, 3) := by decide +kernel
theorem dX11_hand_103 : decode cX11_hand 103 = .ok (.iload_n 3, 1) := by decide +kernel
theorem dX11_hand_104 : decode cX11_hand 104 = .ok (.invokevirtual 242, 3) := by decide +kernel
theorem dX11_hand_107 : decode cX11_hand 107 = .ok (.ireturn, 1) := by decide +kernel
theorem dX11_run_0 : decode cX11_run 0 = .ok (.aload_n 0, 1) := by decide +kernel
theorem dX11_run_1 : decode cX11_run 1 = .ok (.invokevirtual 196, 3) := by decide +kernel
theorem dX11_run_4 : decode cX11_run 4 = .ok (.iload_n 1, 1) := by decide +kernel
theorem dX11_run_5 : decode cX11_run 5 = .ok (.ifCond .lt 26, 3) := by decide +kernel
theorem dX11_run_8 : decode cX11_run 8 = .ok (.iload_n 1, 1) := by decide +kernel
theorem dX11_run_9 : decode cX11_run 9 = .ok (.aload_n 0, 1) := by decide +kernel
theorem dX11_run_10 : decode cX11_run 10 = .ok (.getfield 51, 3) := by decide +kernel
theorem dX11_run_13 : decode cX11_run 13 = .ok (.getfield 214, 3) := by decide +kernel
theorem dX11_run_16 : decode cX11_run 16 = .ok (.getfield 245, 3) := by decide +kernel
theorem dX11_run_19 : decode cX11_run 19 = .ok (.if_icmp .ge 12, 3) := by decide +kernel
theorem dX11_run_22 : decode cX11_run 22 = .ok (.iload_n 2, 1) := by decide +kernel
theorem dX11_run_23 : decode cX11_run 23 = .ok (.ifCond .lt 8, 3) := by decide +kernel
theorem dX11_run_26 : decode cX11_run 26 = .ok (.iload_n 2, 1) := by decide +kernel
theorem dX11_run_27 : decode cX11_run 27 = .ok (.iconst 2, 1) := by decide +kernel
theorem dX11_run_28 : decode cX11_run 28 = .ok (.if_icmp .le 6, 3) := by decide +kernel
theorem dX11_run_31 : decode cX11_run 31 = .ok (.ldc 84, 2) := by decide +kernel
theorem dX11_run_33 : decode cX11_run 33 = .ok (.ireturn, 1) := by decide +kernel
theorem dX11_run_34 : decode cX11_run 34 = .ok (.aload_n 0, 1) := by decide +kernel
theorem dX11_run_35 : decode cX11_run 35 = .ok (.getfield 51, 3) := by decide +kernel
theorem dX11_run_38 : decode cX11_run 38 = .ok (.getfield 214, 3) := by decide +kernel
theorem dX11_run_41 : decode cX11_run 41 = .ok (.getfield 246, 3) := by decide +kernel
theorem dX11_run_44 : decode cX11_run 44 = .ok (.iload_n 1, 1) := by decide +kernel
theorem dX11_run_45 : decode cX11_run 45 = .ok (.iaload, 1) := by decide +kernel
theorem dX11_run_46 : decode cX11_run 46 = .ok (.istore_n 3, 1) := by decide +kernel
theorem dX11_run_47 : decode cX11_run 47 = .ok (.aload_n 0, 1) := by decide +kernel
theorem dX11_run_48 : decode cX11_run 48 = .ok (.getfield 51, 3) := by decide +kernel
theorem dX11_run_51 : decode cX11_run 51 = .ok (.getfield 214, 3) := by decide +kernel
theorem dX11_run_54 : decode cX11_run 54 = .ok (.getfield 246, 3) := by decide +kernel
theorem dX11_run_57 : decode cX11_run 57 = .ok (.iload_n 1, 1) := by decide +kernel
theorem dX11_run_58 : decode cX11_run 58 = .ok (.iconst 1, 1) := by decide +kernel
theorem dX11_run_59 : decode cX11_run 59 = .ok (.iadd, 1) := by decide +kernel
theorem dX11_run_60 : decode cX11_run 60 = .ok (.iaload, 1) := by decide +kernel
theorem dX11_run_61 : decode cX11_run 61 = .ok (.istore 4, 2) := by decide +kernel
theorem dX11_run_63 : decode cX11_run 63 = .ok (.iload_n 2, 1) := by decide +kernel
theorem dX11_run_64 : decode cX11_run 64 = .ok (.lookupswitch 35 #[(0, 28), (1, 30)], 28) := by decide +kernel
theorem dX11_run_92 : decode cX11_run 92 = .ok (.iload_n 3, 1) := by decide +kernel
theorem dX11_run_93 : decode cX11_run 93 = .ok (.ireturn, 1) := by decide +kernel
theorem dX11_run_94 : decode cX11_run 94 = .ok (.iload 4, 2) := by decide +kernel
theorem dX11_run_96 : decode cX11_run 96 = .ok (.iload_n 3, 1) := by decide +kernel
theorem dX11_run_97 : decode cX11_run 97 = .ok (.isub, 1) := by decide +kernel
theorem dX11_run_98 : decode cX11_run 98 = .ok (.ireturn, 1) := by decide +kernel
theorem dX11_run_99 : decode cX11_run 99 = .ok (.aload_n 0, 1) := by decide +kernel
theorem dX11_run_100 : decode cX11_run 100 = .ok (.getfield 51, 3) := by decide +kernel
theorem dX11_run_103 : decode cX11_run 103 = .ok (.getfield 202, 3) := by decide +kernel
theorem dX11_run_106 : decode cX11_run 106 = .ok (.getfield 223, 3) := by decide +kernel
theorem dX11_run_109 : decode cX11_run 109 = .ok (.iconst 1, 1) := by decide +kernel
theorem dX11_run_110 : decode cX11_run 110 = .ok (.iload 4, 2) := by decide +kernel
theorem dX11_run_112 : decode cX11_run 112 = .ok (.ishl, 1) := by decide +kernel
theorem dX11_run_113 : decode cX11_run 113 = .ok (.iconst 1, 1) := by decide +kernel
theorem dX11_run_114 : decode cX11_run 114 = .ok (.iload_n 3, 1) := by decide +kernel
theorem dX11_run_115 : decode cX11_run 115 = .ok (.ishl, 1) := by decide +kernel
theorem dX11_run_116 : decode cX11_run 116 = .ok (.isub, 1) := by decide +kernel
theorem dX11_run_117 : decode cX11_run 117 = .ok (.invokevirtual 232, 3) := by decide +kernel
theorem dX11_run_120 : decode cX11_run 120 = .ok (.ireturn, 1) := by decide +kernel
theorem dX11_sign_0 : decode cX11_sign 0 = .ok (.aload_n 0, 1) := by decide +kernel
theorem dX11_sign_1 : decode cX11_sign 1 = .ok (.invokevirtual 156, 3) := by decide +kernel
theorem dX11_sign_4 : decode cX11_sign 4 = .ok (.ifCond .eq 6, 3) := by decide +kernel
theorem dX11_sign_7 : decode cX11_sign 7 = .ok (.ldc 152, 2) := by decide +kernel
theorem dX11_sign_9 : decode cX11_sign 9 = .ok (.ireturn, 1) := by decide +kernel
theorem dX11_sign_10 : decode cX11_sign 10 = .ok (.iload_n 1, 1) := by decide +kernel
theorem dX11_sign_11 : decode cX11_sign 11 = .ok (.ifCond .ge 6, 3) := by decide +kernel
theorem dX11_sign_14 : decode cX11_sign 14 = .ok (.ldc 84, 2) := by decide +kernel
theorem dX11_sign_16 : decode cX11_sign 16 = .ok (.ireturn, 1) := by decide +kernel
theorem dX11_sign_17 : decode cX11_sign 17 = .ok (.aload_n 0, 1) := by decide +kernel
theorem dX11_sign_18 : decode cX11_sign 18 = .ok (.invokevirtual 196, 3) := by decide +kernel
theorem dX11_sign_21 : decode cX11_sign 21 = .ok (.iload_n 1, 1) := by decide +kernel
theorem dX11_sign_22 : decode cX11_sign 22 = .ok (.aload_n 0, 1) := by decide +kernel
theorem dX11_sign_23 : decode cX11_sign 23 = .ok (.getfield 51, 3) := by decide +kernel
theorem dX11_sign_26 : decode cX11_sign 26 = .ok (.getfield 249, 3) := by decide +kernel
theorem dX11_sign_29 : decode cX11_sign 29 = .ok (.if_icmp .ge 15, 3) := by decide +kernel
theorem dX11_sign_32 : decode cX11_sign 32 = .ok (.aload_n 0, 1) := by decide +kernel
theorem dX11_sign_33 : decode cX11_sign 33 = .ok (.getfield 51, 3) := by decide +kernel
theorem dX11_sign_36 : decode cX11_sign 36 = .ok (.getfield 250, 3) := by decide +kernel
theorem dX11_sign_39 : decode cX11_sign 39 = .ok (.iload_n 1, 1) := by decide +kernel
theorem dX11_sign_40 : decode cX11_sign 40 = .ok (.iaload, 1) := by decide +kernel
theorem dX11_sign_41 : decode cX11_sign 41 = .ok (.goto 5, 3) := by decide +kernel
theorem dX11_sign_44 : decode cX11_sign 44 = .ok (.ldc 253, 2) := by decide +kernel
theorem dX11_sign_46 : decode cX11_sign 46 = .ok (.ireturn, 1) := by decide +kernel
theorem dX11_say_0 : decode cX11_say 0 = .ok (.aload_n 0, 1) := by decide +kernel
theorem dX11_say_1 : decode cX11_say 1 = .ok (.invokevirtual 156, 3) := by decide +kernel
theorem dX11_say_4 : decode cX11_say 4 = .ok (.ifCond .eq 8, 3) := by decide +kernel
theorem dX11_say_7 : decode cX11_say 7 = .ok (.ldc 152, 2) := by decide +kernel
theorem dX11_say_9 : decode cX11_say 9 = .ok (.goto 10, 3) := by decide +kernel
theorem dX11_say_12 : decode cX11_say 12 = .ok (.aload_n 0, 1) := by decide +kernel
theorem dX11_say_13 : decode cX11_say 13 = .ok (.getfield 19, 3) := by decide +kernel
theorem dX11_say_16 : decode cX11_say 16 = .ok (.invokevirtual 254, 3) := by decide +kernel
theorem dX11_say_19 : decode cX11_say 19 = .ok (.istore_n 1, 1) := by decide +kernel
theorem dX11_say_20 : decode cX11_say 20 = .ok (.aload_n 0, 1) := by decide +kernel
theorem dX11_say_21 : decode cX11_say 21 = .ok (.getfield 19, 3) := by decide +kernel
theorem dX11_say_24 : decode cX11_say 24 = .ok (.iconst 0, 1) := by decide +kernel
theorem dX11_say_25 : decode cX11_say 25 = .ok (.putfield 121, 3) := by decide +kernel
theorem dX11_say_28 : decode cX11_say 28 = .ok (.iload_n 1, 1) := by decide +kernel
theorem dX11_say_29 : decode cX11_say 29 = .ok (.ifCond .ge 5, 3) := by decide +kernel
theorem dX11_say_32 : decode cX11_say 32 = .ok (.iload_n 1, 1) := by decide +kernel
theorem dX11_say_33 : decode cX11_say 33 = .ok (.ireturn, 1) := by decide +kernel
theorem dX11_say_34 : decode cX11_say 34 = .ok (.aload_n 0, 1) := by decide +kernel
theorem dX11_say_35 : decode cX11_say 35 = .ok (.invokevirtual 196, 3) := by decide +kernel
theorem dX11_say_38 : decode cX11_say 38 = .ok (.aload_n 0, 1) := by decide +kernel
theorem dX11_say_39 : decode cX11_say 39 = .ok (.iload_n 1, 1) := by decide +kernel
theorem dX11_say_40 : decode cX11_say 40 = .ok (.invokevirtual 235, 3) := by decide +kernel
theorem dX11_say_43 : decode cX11_say 43 = .ok (.ireturn, 1) := by decide +kernel
theorem dX11_without_0 : decode cX11_without 0 = .ok (.aload_n 0, 1) := by decide +kernel
theorem dX11_without_1 : decode cX11_without 1 = .ok (.iload_n 1, 1) := by decide +kernel
theorem dX11_without_2 : decode cX11_without 2 = .ok (.invokevirtual 173, 3) := by decide +kernel
theorem dX11_without_5 : decode cX11_without 5 = .ok (.ifCond .ne 6, 3) := by decide +kernel
theorem dX11_without_8 : decode cX11_without 8 = .ok (.ldc 84, 2) := by decide +kernel
theorem dX11_without_10 : decode cX11_without 10 = .ok (.ireturn, 1) := by decide +kernel
theorem dX11_without_11 : decode cX11_without 11 = .ok (.aload_n 0, 1) := by decide +kernel
theorem dX11_without_12 : decode cX11_without 12 = .ok (.getfield 33, 3) := by decide +kernel
theorem dX11_without_15 : decode cX11_without 15 = .ok (.getfield 146, 3) := by decide +kernel
theorem dX11_without_18 : decode cX11_without 18 = .ok (.iconst 1, 1) := by decide +kernel
theorem dX11_without_19 : decode cX11_without 19 = .ok (.if_icmp .ne 6, 3) := by decide +kernel
theorem dX11_without_22 : decode cX11_without 22 = .ok (.ldc 152, 2) := by decide +kernel
theorem dX11_without_24 : decode cX11_without 24 = .ok (.ireturn, 1) := by decide +kernel
theorem dX11_without_25 : decode cX11_without 25 = .ok (.aload_n 0, 1) := by decide +kernel
theorem dX11_without_26 : decode cX11_without 26 = .ok (.getfield 58, 3) := by decide +kernel
theorem dX11_without_29 : decode cX11_without 29 = .ok (.aload_n 0, 1) := by decide +kernel
theorem dX11_without_30 : decode cX11_without 30 = .ok (.getfield 33, 3) := by decide +kernel
theorem dX11_without_33 : decode cX11_without 33 = .ok (.iload_n 1, 1) := by decide +kernel
theorem dX11_without_34 : decode cX11_without 34 = .ok (.invokevirtual 257, 3) := by decide +kernel
theorem dX11_without_37 : decode cX11_without 37 = .ok (.ireturn, 1) := by decide +kernel
theorem dX11_least_0 : decode cX11_least 0 = .ok (.aload_n 0, 1) := by decide +kernel
theorem dX11_least_1 : decode cX11_least 1 = .ok (.invokevirtual 156, 3) := by decide +kernel
theorem dX11_least_4 : decode cX11_least 4 = .ok (.ifCond .eq 6, 3) := by decide +kernel
theorem dX11_least_7 : decode cX11_least 7 = .ok (.ldc 152, 2) := by decide +kernel
theorem dX11_least_9 : decode cX11_least 9 = .ok (.ireturn, 1) := by decide +kernel
theorem dX11_least_10 : decode cX11_least 10 = .ok (.iload_n 1, 1) := by decide +kernel
theorem dX11_least_11 : decode cX11_least 11 = .ok (.iconst 1, 1) := by decide +kernel
theorem dX11_least_12 : decode cX11_least 12 = .ok (.if_icmp .lt 9, 3) := by decide +kernel
theorem dX11_least_15 : decode cX11_least 15 = .ok (.iload_n 1, 1) := by decide +kernel
theorem dX11_least_16 : decode cX11_least 16 = .ok (.bipush 10, 2) := by decide +kernel
theorem dX11_least_18 : decode cX11_least 18 = .ok (.if_icmp .le 6, 3) := by decide +kernel
theorem dX11_least_21 : decode cX11_least 21 = .ok (.ldc 84, 2) := by decide +kernel
theorem dX11_least_23 : decode cX11_least 23 = .ok (.ireturn, 1) := by decide +kernel
theorem dX11_least_24 : decode cX11_least 24 = .ok (.aload_n 0, 1) := by decide +kernel
theorem dX11_least_25 : decode cX11_least 25 = .ok (.getfield 58, 3) := by decide +kernel
theorem dX11_least_28 : decode cX11_least 28 = .ok (.aload_n 0, 1) := by decide +kernel
theorem dX11_least_29 : decode cX11_least 29 = .ok (.getfield 33, 3) := by decide +kernel
theorem dX11_least_32 : decode cX11_least 32 = .ok (.iload_n 1, 1) := by decide +kernel
theorem dX11_least_33 : decode cX11_least 33 = .ok (.invokevirtual 261, 3) := by decide +kernel
theorem dX11_least_36 : decode cX11_least 36 = .ok (.ireturn, 1) := by decide +kernel
theorem dX11_pairs_0 : decode cX11_pairs 0 = .ok (.aload_n 0, 1) := by decide +kernel
theorem dX11_pairs_1 : decode cX11_pairs 1 = .ok (.iload_n 1, 1) := by decide +kernel
theorem dX11_pairs_2 : decode cX11_pairs 2 = .ok (.invokevirtual 173, 3) := by decide +kernel
theorem dX11_pairs_5 : decode cX11_pairs 5 = .ok (.ifCond .ne 6, 3) := by decide +kernel
theorem dX11_pairs_8 : decode cX11_pairs 8 = .ok (.ldc 84, 2) := by decide +kernel
theorem dX11_pairs_10 : decode cX11_pairs 10 = .ok (.ireturn, 1) := by decide +kernel
theorem dX11_pairs_11 : decode cX11_pairs 11 = .ok (.aload_n 0, 1) := by decide +kernel
theorem dX11_pairs_12 : decode cX11_pairs 12 = .ok (.invokevirtual 196, 3) := by decide +kernel
theorem dX11_pairs_15 : decode cX11_pairs 15 = .ok (.aload_n 0, 1) := by decide +kernel
theorem dX11_pairs_16 : decode cX11_pairs 16 = .ok (.getfield 51, 3) := by decide +kernel
theorem dX11_pairs_19 : decode cX11_pairs 19 = .ok (.getfield 202, 3) := by decide +kernel
theorem dX11_pairs_22 : decode cX11_pairs 22 = .ok (.getfield 223, 3) := by decide +kernel
theorem dX11_pairs_25 : decode cX11_pairs 25 = .ok (.getfield 264, 3) := by decide +kernel
theorem dX11_pairs_28 : decode cX11_pairs 28 = .ok (.iload_n 1, 1) := by decide +kernel
theorem dX11_pairs_29 : decode cX11_pairs 29 = .ok (.iaload, 1) := by decide +kernel
theorem dX11_pairs_30 : decode cX11_pairs 30 = .ok (.iconst 1, 1) := by decide +kernel
theorem dX11_pairs_31 : decode cX11_pairs 31 = .ok (.iload_n 1, 1) := by decide +kernel
theorem dX11_pairs_32 : decode cX11_pairs 32 = .ok (.ishl, 1) := by decide +kernel
theorem dX11_pairs_33 : decode cX11_pairs 33 = .ok (.iconst (-1), 1) := by decide +kernel
theorem dX11_pairs_34 : decode cX11_pairs 34 = .ok (.ixor, 1) := by decide +kernel
theorem dX11_pairs_35 : decode cX11_pairs 35 = .ok (.iand, 1) := by decide +kernel
theorem dX11_pairs_36 : decode cX11_pairs 36 = .ok (.ireturn, 1) := by decide +kernel
theorem dX11_who_0 : decode cX11_who 0 = .ok (.aload_n 0, 1) := by decide +kernel
theorem dX11_who_1 : decode cX11_who 1 = .ok (.iload_n 1, 1) := by decide +kernel
theorem dX11_who_2 : decode cX11_who 2 = .ok (.invokevirtual 173, 3) := by decide +kernel
theorem dX11_who_5 : decode cX11_who 5 = .ok (.ifCond .eq 37, 3) := by decide +kernel
theorem dX11_who_8 : decode cX11_who 8 = .ok (.iload_n 2, 1) := by decide +kernel
theorem dX11_who_9 : decode cX11_who 9 = .ok (.ifCond .lt 33, 3) := by decide +kernel
theorem dX11_who_12 : decode cX11_who 12 = .ok (.iload_n 2, 1) := by decide +kernel
theorem dX11_who_13 : decode cX11_who 13 = .ok (.iconst 5, 1) := by decide +kernel
theorem dX11_who_14 : decode cX11_who 14 = .ok (.if_icmp .gt 28, 3) := by decide +kernel
theorem dX11_who_17 : decode cX11_who 17 = .ok (.iload_n 3, 1) := by decide +kernel
theorem dX11_who_18 : decode cX11_who 18 = .ok (.invokestatic 80, 3) := by decide +kernel
theorem dX11_who_21 : decode cX11_who 21 = .ok (.ifCond .eq 21, 3) := by decide +kernel
theorem dX11_who_24 : decode cX11_who 24 = .ok (.iload 5, 2) := by decide +kernel
theorem dX11_who_26 : decode cX11_who 26 = .ok (.iconst 1, 1) := by decide +kernel
theorem dX11_who_27 : decode cX11_who 27 = .ok (.if_icmp .lt 15, 3) := by decide +kernel
theorem dX11_who_30 : decode cX11_who 30 = .ok (.iload 5, 2) := by decide +kernel
theorem dX11_who_32 : decode cX11_who 32 = .ok (.aload_n 0, 1) := by decide +kernel
theorem dX11_who_33 : decode cX11_who 33 = .ok (.getfield 33, 3) := by decide +kernel
theorem dX11_who_36 : decode cX11_who 36 = .ok (.getfield 146, 3) := by decide +kernel
theorem dX11_who_39 : decode cX11_who 39 = .ok (.if_icmp .le 6, 3) := by decide +kernel
theorem dX11_who_42 : decode cX11_who 42 = .ok (.ldc 84, 2) := by decide +kernel
theorem dX11_who_44 : decode cX11_who 44 = .ok (.ireturn, 1) := by decide +kernel
theorem dX11_who_45 : decode cX11_who 45 = .ok (.aload_n 0, 1) := by decide +kernel
theorem dX11_who_46 : decode cX11_who 46 = .ok (.getfield 10, 3) := by decide +kernel
theorem dX11_who_49 : decode cX11_who 49 = .ok (.iload_n 3, 1) := by decide +kernel
theorem dX11_who_50 : decode cX11_who 50 = .ok (.invokevirtual 93, 3) := by decide +kernel
theorem dX11_who_53 : decode cX11_who 53 = .ok (.ifCond .eq 9, 3) := by decide +kernel
theorem dX11_who_56 : decode cX11_who 56 = .ok (.aload_n 0, 1) := by decide +kernel
theorem dX11_who_57 : decode cX11_who 57 = .ok (.iconst 1, 1) := by decide +kernel
theorem dX11_who_58 : decode cX11_who 58 = .ok (.invokevirtual 85, 3) := by decide +kernel
theorem dX11_who_61 : decode cX11_who 61 = .ok (.ireturn, 1) := by decide +kernel
theorem dX11_who_62 : decode cX11_who 62 = .ok (.aload_n 0, 1) := by decide +kernel
theorem dX11_who_63 : decode cX11_who 63 = .ok (.getfield 10, 3) := by decide +kernel
theorem dX11_who_66 : decode cX11_who 66 = .ok (.iload_n 3, 1) := by decide +kernel
theorem dX11_who_67 : decode cX11_who 67 = .ok (.iload 4, 2) := by decide +kernel
theorem dX11_who_69 : decode cX11_who 69 = .ok (.iload 5, 2) := by decide +kernel
theorem dX11_who_71 : decode cX11_who 71 = .ok (.invokevirtual 96, 3) := by decide +kernel
theorem dX11_who_74 : decode cX11_who 74 = .ok (.ifCond .ne 9, 3) := by decide +kernel
theorem dX11_who_77 : decode cX11_who 77 = .ok (.aload_n 0, 1) := by decide +kernel
theorem dX11_who_78 : decode cX11_who 78 = .ok (.iconst 2, 1) := by decide +kernel
theorem dX11_who_79 : decode cX11_who 79 = .ok (.invokevirtual 85, 3) := by decide +kernel
theorem dX11_who_82 : decode cX11_who 82 = .ok (.ireturn, 1) := by decide +kernel
theorem dX11_who_83 : decode cX11_who 83 = .ok (.aload_n 0, 1) := by decide +kernel
theorem dX11_who_84 : decode cX11_who 84 = .ok (.iconst 0, 1) := by decide +kernel
theorem dX11_who_85 : decode cX11_who 85 = .ok (.putfield 77, 3) := by decide +kernel
theorem dX11_who_88 : decode cX11_who 88 = .ok (.aload_n 0, 1) := by decide +kernel
theorem dX11_who_89 : decode cX11_who 89 = .ok (.getfield 58, 3) := by decide +kernel
theorem dX11_who_92 : decode cX11_who 92 = .ok (.aload_n 0, 1) := by decide +kernel
theorem dX11_who_93 : decode cX11_who 93 = .ok (.getfield 10, 3) := by decide +kernel
theorem dX11_who_96 : decode cX11_who 96 = .ok (.getfield 108, 3) := by decide +kernel
theorem dX11_who_99 : decode cX11_who 99 = .ok (.iload_n 3, 1) := by decide +kernel
theorem dX11_who_100 : decode cX11_who 100 = .ok (.aaload, 1) := by decide +kernel
theorem dX11_who_101 : decode cX11_who 101 = .ok (.iload 4, 2) := by decide +kernel
theorem dX11_who_103 : decode cX11_who 103 = .ok (.iload 5, 2) := by decide +kernel
theorem dX11_who_105 : decode cX11_who 105 = .ok (.invokevirtual 267, 3) := by decide +kernel
theorem dX11_who_108 : decode cX11_who 108 = .ok (.iload_n 2, 1) := by decide +kernel
theorem dX11_who_109 : decode cX11_who 109 = .ok (.iconst 2, 1) := by decide +kernel
theorem dX11_who_110 : decode cX11_who 110 = .ok (.if_icmp .ne 16, 3) := by decide +kernel
theorem dX11_who_113 : decode cX11_who 113 = .ok (.aload_n 0, 1) := by decide +kernel
theorem dX11_who_114 : decode cX11_who 114 = .ok (.getfield 58, 3) := by decide +kernel
theorem dX11_who_117 : decode cX11_who 117 = .ok (.aload_n 0, 1) := by decide +kernel
theorem dX11_who_118 : decode cX11_who 118 = .ok (.getfield 33, 3) := by decide +kernel
theorem dX11_who_121 : decode cX11_who 121 = .ok (.iload_n 1, 1) := by decide +kernel
theorem dX11_who_122 : decode cX11_who 122 = .ok (.invokevirtual 271, 3) := by decide +kernel
theorem dX11_who_125 : decode cX11_who 125 = .ok (.ireturn, 1) := by decide +kernel
theorem dX11_who_126 : decode cX11_who 126 = .ok (.iload_n 2, 1) := by decide +kernel
theorem dX11_who_127 : decode cX11_who 127 = .ok (.iconst 2, 1) := by decide +kernel
theorem dX11_who_128 : decode cX11_who 128 = .ok (.if_icmp .le 19, 3) := by decide +kernel
theorem dX11_who_131 : decode cX11_who 131 = .ok (.aload_n 0, 1) := by decide +kernel
theorem dX11_who_132 : decode cX11_who 132 = .ok (.getfield 58, 3) := by decide +kernel
theorem dX11_who_135 : decode cX11_who 135 = .ok (.aload_n 0, 1) := by decide +kernel
theorem dX11_who_136 : decode cX11_who 136 = .ok (.getfield 33, 3) := by decide +kernel
theorem dX11_who_139 : decode cX11_who 139 = .ok (.iload_n 1, 1) := by decide +kernel
theorem dX11_who_140 : decode cX11_who 140 = .ok (.iload_n 2, 1) := by decide +kernel
theorem dX11_who_141 : decode cX11_who 141 = .ok (.iconst 3, 1) := by decide +kernel
theorem dX11_who_142 : decode cX11_who 142 = .ok (.isub, 1) := by decide +kernel
theorem dX11_who_143 : decode cX11_who 143 = .ok (.invokevirtual 274, 3) := by decide +kernel
theorem dX11_who_146 : decode cX11_who 146 = .ok (.ireturn, 1) := by decide +kernel
theorem dX11_who_147 : decode cX11_who 147 = .ok (.aload_n 0, 1) := by decide +kernel
theorem dX11_who_148 : decode cX11_who 148 = .ok (.getfield 58, 3) := by decide +kernel
theorem dX11_who_151 : decode cX11_who 151 = .ok (.aload_n 0, 1) := by decide +kernel
theorem dX11_who_152 : decode cX11_who 152 = .ok (.getfield 33, 3) := by decide +kernel
theorem dX11_who_155 : decode cX11_who 155 = .ok (.invokevirtual 278, 3) := by decide +kernel
theorem dX11_who_158 : decode cX11_who 158 = .ok (.lstore 6, 2) := by decide +kernel
theorem dX11_who_160 : decode cX11_who 160 = .ok (.iload_n 2, 1) := by decide +kernel
theorem dX11_who_161 : decode cX11_who 161 = .ok (.ifCond .ne 9, 3) := by decide +kernel
theorem dX11_who_164 : decode cX11_who 164 = .ok (.lload 6, 2) := by decide +kernel
theorem dX11_who_166 : decode cX11_who 166 = .ok (.invokestatic 282, 3) := by decide +kernel
theorem dX11_who_169 : decode cX11_who 169 = .ok (.ireturn, 1) := by decide +kernel
theorem dX11_who_170 : decode cX11_who 170 = .ok (.lload 6, 2) := by decide +kernel
theorem dX11_who_172 : decode cX11_who 172 = .ok (.lconst 0, 1) := by decide +kernel
theorem dX11_who_173 : decode cX11_who 173 = .ok (.lcmp, 1) := by decide +kernel
theorem dX11_who_174 : decode cX11_who 174 = .ok (.ifCond .ne 8, 3) := by decide +kernel
theorem dX11_who_177 : decode cX11_who 177 = .ok (.ldc 253, 2) := by decide +kernel
theorem dX11_who_179 : decode cX11_who 179 = .ok (.goto 8, 3) := by decide +kernel
theorem dX11_who_182 : decode cX11_who 182 = .ok (.lload 6, 2) := by decide +kernel
theorem dX11_who_184 : decode cX11_who 184 = .ok (.invokestatic 288, 3) := by decide +kernel
theorem dX11_who_187 : decode cX11_who 187 = .ok (.ireturn, 1) := by decide +kernel
theorem dX11_lost_0 : decode cX11_lost 0 = .ok (.aload_n 0, 1) := by decide +kernel
theorem dX11_lost_1 : decode cX11_lost 1 = .ok (.invokevirtual 156, 3) := by decide +kernel
theorem dX11_lost_4 : decode cX11_lost 4 = .ok (.ifCond .eq 7, 3) := by decide +kernel
theorem dX11_lost_7 : decode cX11_lost 7 = .ok (.ldc2_w 291, 3) := by decide +kernel
theorem dX11_lost_10 : decode cX11_lost 10 = .ok (.lreturn, 1) := by decide +kernel
theorem dX11_lost_11 : decode cX11_lost 11 = .ok (.iload_n 1, 1) := by decide +kernel
theorem dX11_lost_12 : decode cX11_lost 12 = .ok (.ifCond .lt 28, 3) := by decide +kernel
theorem dX11_lost_15 : decode cX11_lost 15 = .ok (.iload_n 1, 1) := by decide +kernel
theorem dX11_lost_16 : decode cX11_lost 16 = .ok (.bipush 10, 2) := by decide +kernel
theorem dX11_lost_18 : decode cX11_lost 18 = .ok (.if_icmp .gt 22, 3) := by decide +kernel
theorem dX11_lost_21 : decode cX11_lost 21 = .ok (.iload_n 2, 1) := by decide +kernel
theorem dX11_lost_22 : decode cX11_lost 22 = .ok (.ifCond .lt 18, 3) := by decide +kernel
theorem dX11_lost_25 : decode cX11_lost 25 = .ok (.iload_n 2, 1) := by decide +kernel
theorem dX11_lost_26 : decode cX11_lost 26 = .ok (.bipush 10, 2) := by decide +kernel
theorem dX11_lost_28 : decode cX11_lost 28 = .ok (.if_icmp .gt 12, 3) := by decide +kernel
theorem dX11_lost_31 : decode cX11_lost 31 = .ok (.iload_n 3, 1) := by decide +kernel
theorem dX11_lost_32 : decode cX11_lost 32 = .ok (.ifCond .lt 8, 3) := by decide +kernel
theorem dX11_lost_35 : decode cX11_lost 35 = .ok (.iload_n 3, 1) := by decide +kernel
theorem dX11_lost_36 : decode cX11_lost 36 = .ok (.iconst 1, 1) := by decide +kernel
theorem dX11_lost_37 : decode cX11_lost 37 = .ok (.if_icmp .le 7, 3) := by decide +kernel
theorem dX11_lost_40 : decode cX11_lost 40 = .ok (.ldc2_w 293, 3) := by decide +kernel
theorem dX11_lost_43 : decode cX11_lost 43 = .ok (.lreturn, 1) := by decide +kernel
theorem dX11_lost_44 : decode cX11_lost 44 = .ok (.aload_n 0, 1) := by decide +kernel
theorem dX11_lost_45 : decode cX11_lost 45 = .ok (.getfield 58, 3) := by decide +kernel
theorem dX11_lost_48 : decode cX11_lost 48 = .ok (.aload_n 0, 1) := by decide +kernel
theorem dX11_lost_49 : decode cX11_lost 49 = .ok (.getfield 33, 3) := by decide +kernel
theorem dX11_lost_52 : decode cX11_lost 52 = .ok (.iload_n 1, 1) := by decide +kernel
theorem dX11_lost_53 : decode cX11_lost 53 = .ok (.iload_n 2, 1) := by decide +kernel
theorem dX11_lost_54 : decode cX11_lost 54 = .ok (.invokevirtual 295, 3) := by decide +kernel
theorem dX11_lost_57 : decode cX11_lost 57 = .ok (.lstore 4, 2) := by decide +kernel
theorem dX11_lost_59 : decode cX11_lost 59 = .ok (.bipush 10, 2) := by decide +kernel
theorem dX11_lost_61 : decode cX11_lost 61 = .ok (.aload_n 0, 1) := by decide +kernel
theorem dX11_lost_62 : decode cX11_lost 62 = .ok (.getfield 33, 3) := by decide +kernel
theorem dX11_lost_65 : decode cX11_lost 65 = .ok (.getfield 146, 3) := by decide +kernel
theorem dX11_lost_68 : decode cX11_lost 68 = .ok (.invokestatic 299, 3) := by decide +kernel
theorem dX11_lost_71 : decode cX11_lost 71 = .ok (.lstore 6, 2) := by decide +kernel
theorem dX11_lost_73 : decode cX11_lost 73 = .ok (.lload 4, 2) := by decide +kernel
theorem dX11_lost_75 : decode cX11_lost 75 = .ok (.lload 6, 2) := by decide +kernel
theorem dX11_lost_77 : decode cX11_lost 77 = .ok (.invokestatic 303, 3) := by decide +kernel
theorem dX11_lost_80 : decode cX11_lost 80 = .ok (.lstore 8, 2) := by decide +kernel
theorem dX11_lost_82 : decode cX11_lost 82 = .ok (.lload 8, 2) := by decide +kernel
theorem dX11_lost_84 : decode cX11_lost 84 = .ok (.lconst 1, 1) := by decide +kernel
theorem dX11_lost_85 : decode cX11_lost 85 = .ok (.lcmp, 1) := by decide +kernel
theorem dX11_lost_86 : decode cX11_lost 86 = .ok (.ifCond .ge 6, 3) := by decide +kernel
theorem dX11_lost_89 : decode cX11_lost 89 = .ok (.iload_n 3, 1) := by decide +kernel
theorem dX11_lost_90 : decode cX11_lost 90 = .ok (.i2l, 1) := by decide +kernel
theorem dX11_lost_91 : decode cX11_lost 91 = .ok (.lreturn, 1) := by decide +kernel
theorem dX11_lost_92 : decode cX11_lost 92 = .ok (.iload_n 3, 1) := by decide +kernel
theorem dX11_lost_93 : decode cX11_lost 93 = .ok (.ifCond .ne 8, 3) := by decide +kernel
theorem dX11_lost_96 : decode cX11_lost 96 = .ok (.lload 4, 2) := by decide +kernel
theorem dX11_lost_98 : decode cX11_lost 98 = .ok (.goto 5, 3) := by decide +kernel
theorem dX11_lost_101 : decode cX11_lost 101 = .ok (.lload 6, 2) := by decide +kernel
theorem dX11_lost_103 : decode cX11_lost 103 = .ok (.lload 8, 2) := by decide +kernel
theorem dX11_lost_105 : decode cX11_lost 105 = .ok (.ldiv, 1) := by decide +kernel
theorem dX11_lost_106 : decode cX11_lost 106 = .ok (.lreturn, 1) := by decide +kernel
theorem dX11_drawn_0 : decode cX11_drawn 0 = .ok (.aload_n 0, 1) := by decide +kernel
theorem dX11_drawn_1 : decode cX11_drawn 1 = .ok (.invokevirtual 156, 3) := by decide +kernel
theorem dX11_drawn_4 : decode cX11_drawn 4 = .ok (.ifCond .eq 6, 3) := by decide +kernel
theorem dX11_drawn_7 : decode cX11_drawn 7 = .ok (.ldc 152, 2) := by decide +kernel
theorem dX11_drawn_9 : decode cX11_drawn 9 = .ok (.ireturn, 1) := by decide +kernel
theorem dX11_drawn_10 : decode cX11_drawn 10 = .ok (.iload_n 1, 1) := by decide +kernel
theorem dX11_drawn_11 : decode cX11_drawn 11 = .ok (.ifCond .lt 30, 3) := by decide +kernel
theorem dX11_drawn_14 : decode cX11_drawn 14 = .ok (.iload_n 1, 1) := by decide +kernel
theorem dX11_drawn_15 : decode cX11_drawn 15 = .ok (.bipush 20, 2) := by decide +kernel
theorem dX11_drawn_17 : decode cX11_drawn 17 = .ok (.if_icmp .gt 24, 3) := by decide +kernel
theorem dX11_drawn_20 : decode cX11_drawn 20 = .ok (.iload_n 2, 1) := by decide +kernel
theorem dX11_drawn_21 : decode cX11_drawn 21 = .ok (.iconst 1, 1) := by decide +kernel
theorem dX11_drawn_22 : decode cX11_drawn 22 = .ok (.if_icmp .lt 19, 3) := by decide +kernel
theorem dX11_drawn_25 : decode cX11_drawn 25 = .ok (.iload_n 2, 1) := by decide +kernel
theorem dX11_drawn_26 : decode cX11_drawn 26 = .ok (.ldc_w 307, 3) := by decide +kernel
theorem dX11_drawn_29 : decode cX11_drawn 29 = .ok (.if_icmp .gt 12, 3) := by decide +kernel
theorem dX11_drawn_32 : decode cX11_drawn 32 = .ok (.iload_n 3, 1) := by decide +kernel
theorem dX11_drawn_33 : decode cX11_drawn 33 = .ok (.ifCond .lt 8, 3) := by decide +kernel
theorem dX11_drawn_36 : decode cX11_drawn 36 = .ok (.iload_n 3, 1) := by decide +kernel
theorem dX11_drawn_37 : decode cX11_drawn 37 = .ok (.iconst 1, 1) := by decide +kernel
theorem dX11_drawn_38 : decode cX11_drawn 38 = .ok (.if_icmp .le 6, 3) := by decide +kernel
theorem dX11_drawn_41 : decode cX11_drawn 41 = .ok (.ldc 84, 2) := by decide +kernel
theorem dX11_drawn_43 : decode cX11_drawn 43 = .ok (.ireturn, 1) := by decide +kernel
theorem dX11_drawn_44 : decode cX11_drawn 44 = .ok (.aload_n 0, 1) := by decide +kernel
theorem dX11_drawn_45 : decode cX11_drawn 45 = .ok (.getfield 58, 3) := by decide +kernel
theorem dX11_drawn_48 : decode cX11_drawn 48 = .ok (.aload_n 0, 1) := by decide +kernel
theorem dX11_drawn_49 : decode cX11_drawn 49 = .ok (.getfield 33, 3) := by decide +kernel
theorem dX11_drawn_52 : decode cX11_drawn 52 = .ok (.iload_n 1, 1) := by decide +kernel
theorem dX11_drawn_53 : decode cX11_drawn 53 = .ok (.iload_n 2, 1) := by decide +kernel
theorem dX11_drawn_54 : decode cX11_drawn 54 = .ok (.invokevirtual 308, 3) := by decide +kernel
theorem dX11_drawn_57 : decode cX11_drawn 57 = .ok (.istore 4, 2) := by decide +kernel
theorem dX11_drawn_59 : decode cX11_drawn 59 = .ok (.iload_n 3, 1) := by decide +kernel
theorem dX11_drawn_60 : decode cX11_drawn 60 = .ok (.ifCond .ne 8, 3) := by decide +kernel
theorem dX11_drawn_63 : decode cX11_drawn 63 = .ok (.iload 4, 2) := by decide +kernel
theorem dX11_drawn_65 : decode cX11_drawn 65 = .ok (.goto 10, 3) := by decide +kernel
theorem dX11_drawn_68 : decode cX11_drawn 68 = .ok (.aload_n 0, 1) := by decide +kernel
theorem dX11_drawn_69 : decode cX11_drawn 69 = .ok (.getfield 58, 3) := by decide +kernel
theorem dX11_drawn_72 : decode cX11_drawn 72 = .ok (.invokevirtual 311, 3) := by decide +kernel
theorem dX11_drawn_75 : decode cX11_drawn 75 = .ok (.ireturn, 1) := by decide +kernel
theorem dX11_image_0 : decode cX11_image 0 = .ok (.iload_n 1, 1) := by decide +kernel
theorem dX11_image_1 : decode cX11_image 1 = .ok (.ifCond .lt 8, 3) := by decide +kernel
theorem dX11_image_4 : decode cX11_image 4 = .ok (.iload_n 1, 1) := by decide +kernel
theorem dX11_image_5 : decode cX11_image 5 = .ok (.iconst 2, 1) := by decide +kernel
theorem dX11_image_6 : decode cX11_image 6 = .ok (.if_icmp .lt 6, 3) := by decide +kernel
theorem dX11_image_9 : decode cX11_image 9 = .ok (.ldc 84, 2) := by decide +kernel
theorem dX11_image_11 : decode cX11_image 11 = .ok (.ireturn, 1) := by decide +kernel
theorem dX11_image_12 : decode cX11_image 12 = .ok (.aload_n 0, 1) := by decide +kernel
theorem dX11_image_13 : decode cX11_image 13 = .ok (.invokevirtual 156, 3) := by decide +kernel
theorem dX11_image_16 : decode cX11_image 16 = .ok (.ifCond .eq 6, 3) := by decide +kernel
theorem dX11_image_19 : decode cX11_image 19 = .ok (.ldc 152, 2) := by decide +kernel
theorem dX11_image_21 : decode cX11_image 21 = .ok (.ireturn, 1) := by decide +kernel
theorem dX11_image_22 : decode cX11_image 22 = .ok (.aload_n 0, 1) := by decide +kernel
theorem dX11_image_23 : decode cX11_image 23 = .ok (.getfield 44, 3) := by decide +kernel
theorem dX11_image_26 : decode cX11_image 26 = .ok (.iload_n 1, 1) := by decide +kernel
theorem dX11_image_27 : decode cX11_image 27 = .ok (.aaload, 1) := by decide +kernel
theorem dX11_image_28 : decode cX11_image 28 = .ok (.aload_n 0, 1) := by decide +kernel
theorem dX11_image_29 : decode cX11_image 29 = .ok (.getfield 33, 3) := by decide +kernel
theorem dX11_image_32 : decode cX11_image 32 = .ok (.invokevirtual 314, 3) := by decide +kernel
theorem dX11_image_35 : decode cX11_image 35 = .ok (.iconst 1, 1) := by decide +kernel
theorem dX11_image_36 : decode cX11_image 36 = .ok (.ireturn, 1) := by decide +kernel
theorem dX11_restore_0 : decode cX11_restore 0 = .ok (.iload_n 1, 1) := by decide +kernel
theorem dX11_restore_1 : decode cX11_restore 1 = .ok (.ifCond .lt 8, 3) := by decide +kernel
theorem dX11_restore_4 : decode cX11_restore 4 = .ok (.iload_n 1, 1) := by decide +kernel
theorem dX11_restore_5 : decode cX11_restore 5 = .ok (.iconst 2, 1) := by decide +kernel
theorem dX11_restore_6 : decode cX11_restore 6 = .ok (.if_icmp .lt 6, 3) := by decide +kernel
theorem dX11_restore_9 : decode cX11_restore 9 = .ok (.ldc 84, 2) := by decide +kernel
theorem dX11_restore_11 : decode cX11_restore 11 = .ok (.ireturn, 1) := by decide +kernel
theorem dX11_restore_12 : decode cX11_restore 12 = .ok (.aload_n 0, 1) := by decide +kernel
theorem dX11_restore_13 : decode cX11_restore 13 = .ok (.getfield 44, 3) := by decide +kernel
theorem dX11_restore_16 : decode cX11_restore 16 = .ok (.iload_n 1, 1) := by decide +kernel
theorem dX11_restore_17 : decode cX11_restore 17 = .ok (.aaload, 1) := by decide +kernel
theorem dX11_restore_18 : decode cX11_restore 18 = .ok (.getfield 146, 3) := by decide +kernel
theorem dX11_restore_21 : decode cX11_restore 21 = .ok (.ifCond .ne 6, 3) := by decide +kernel
theorem dX11_restore_24 : decode cX11_restore 24 = .ok (.ldc 152, 2) := by decide +kernel
theorem dX11_restore_26 : decode cX11_restore 26 = .ok (.ireturn, 1) := by decide +kernel
theorem dX11_restore_27 : decode cX11_restore 27 = .ok (.aload_n 0, 1) := by decide +kernel
theorem dX11_restore_28 : decode cX11_restore 28 = .ok (.aload_n 0, 1) := by decide +kernel
theorem dX11_restore_29 : decode cX11_restore 29 = .ok (.getfield 44, 3) := by decide +kernel
theorem dX11_restore_32 : decode cX11_restore 32 = .ok (.iload_n 1, 1) := by decide +kernel
theorem dX11_restore_33 : decode cX11_restore 33 = .ok (.aaload, 1) := by decide +kernel
theorem dX11_restore_34 : decode cX11_restore 34 = .ok (.invokevirtual 142, 3) := by decide +kernel
theorem dX11_restore_37 : decode cX11_restore 37 = .ok (.iconst 1, 1) := by decide +kernel
theorem dX11_restore_38 : decode cX11_restore 38 = .ok (.ireturn, 1) := by decide +kernel
theorem dX11_kind_0 : decode cX11_kind 0 = .ok (.aload_n 0, 1) := by decide +kernel
theorem dX11_kind_1 : decode cX11_kind 1 = .ok (.iload_n 1, 1) := by decide +kernel
theorem dX11_kind_2 : decode cX11_kind 2 = .ok (.invokevirtual 173, 3) := by decide +kernel
theorem dX11_kind_5 : decode cX11_kind 5 = .ok (.ifCond .eq 15, 3) := by decide +kernel
theorem dX11_kind_8 : decode cX11_kind 8 = .ok (.aload_n 0, 1) := by decide +kernel
theorem dX11_kind_9 : decode cX11_kind 9 = .ok (.getfield 33, 3) := by decide +kernel
theorem dX11_kind_12 : decode cX11_kind 12 = .ok (.getfield 184, 3) := by decide +kernel
theorem dX11_kind_15 : decode cX11_kind 15 = .ok (.iload_n 1, 1) := by decide +kernel
theorem dX11_kind_16 : decode cX11_kind 16 = .ok (.iaload, 1) := by decide +kernel
theorem dX11_kind_17 : decode cX11_kind 17 = .ok (.goto 5, 3) := by decide +kernel
theorem dX11_kind_20 : decode cX11_kind 20 = .ok (.ldc 84, 2) := by decide +kernel
theorem dX11_kind_22 : decode cX11_kind 22 = .ok (.ireturn, 1) := by decide +kernel
theorem dX11_as_0 : decode cX11_as 0 = .ok (.aload_n 0, 1) := by decide +kernel
theorem dX11_as_1 : decode cX11_as 1 = .ok (.iload_n 1, 1) := by decide +kernel
theorem dX11_as_2 : decode cX11_as 2 = .ok (.invokevirtual 173, 3) := by decide +kernel
theorem dX11_as_5 : decode cX11_as 5 = .ok (.ifCond .eq 12, 3) := by decide +kernel
theorem dX11_as_8 : decode cX11_as 8 = .ok (.iload_n 2, 1) := by decide +kernel
theorem dX11_as_9 : decode cX11_as 9 = .ok (.ifCond .lt 8, 3) := by decide +kernel
theorem dX11_as_12 : decode cX11_as 12 = .ok (.iload_n 2, 1) := by decide +kernel
theorem dX11_as_13 : decode cX11_as 13 = .ok (.iconst 5, 1) := by decide +kernel
theorem dX11_as_14 : decode cX11_as 14 = .ok (.if_icmp .le 6, 3) := by decide +kernel
theorem dX11_as_17 : decode cX11_as 17 = .ok (.ldc 84, 2) := by decide +kernel
theorem dX11_as_19 : decode cX11_as 19 = .ok (.ireturn, 1) := by decide +kernel
theorem dX11_as_20 : decode cX11_as 20 = .ok (.aload_n 0, 1) := by decide +kernel
theorem dX11_as_21 : decode cX11_as 21 = .ok (.getfield 33, 3) := by decide +kernel
theorem dX11_as_24 : decode cX11_as 24 = .ok (.getfield 184, 3) := by decide +kernel
theorem dX11_as_27 : decode cX11_as 27 = .ok (.iload_n 1, 1) := by decide +kernel
theorem dX11_as_28 : decode cX11_as 28 = .ok (.iaload, 1) := by decide +kernel
theorem dX11_as_29 : decode cX11_as 29 = .ok (.iload_n 2, 1) := by decide +kernel
theorem dX11_as_30 : decode cX11_as 30 = .ok (.invokestatic 317, 3) := by decide +kernel
theorem dX11_as_33 : decode cX11_as 33 = .ok (.ifCond .ne 9, 3) := by decide +kernel
theorem dX11_as_36 : decode cX11_as 36 = .ok (.aload_n 0, 1) := by decide +kernel
theorem dX11_as_37 : decode cX11_as 37 = .ok (.iconst 3, 1) := by decide +kernel
theorem dX11_as_38 : decode cX11_as 38 = .ok (.invokevirtual 85, 3) := by decide +kernel
theorem dX11_as_41 : decode cX11_as 41 = .ok (.ireturn, 1) := by decide +kernel
theorem dX11_as_42 : decode cX11_as 42 = .ok (.aload_n 0, 1) := by decide +kernel
theorem dX11_as_43 : decode cX11_as 43 = .ok (.iconst 0, 1) := by decide +kernel
theorem dX11_as_44 : decode cX11_as 44 = .ok (.putfield 77, 3) := by decide +kernel
theorem dX11_as_47 : decode cX11_as 47 = .ok (.iload_n 1, 1) := by decide +kernel
theorem dX11_as_48 : decode cX11_as 48 = .ok (.ireturn, 1) := by decide +kernel
theorem dX11_ask_0 : decode cX11_ask 0 = .ok (.aload_n 0, 1) := by decide +kernel
theorem dX11_ask_1 : decode cX11_ask 1 = .ok (.iload_n 1, 1) := by decide +kernel
theorem dX11_ask_2 : decode cX11_ask 2 = .ok (.invokevirtual 173, 3) := by decide +kernel
theorem dX11_ask_5 : decode cX11_ask 5 = .ok (.ifCond .eq 12, 3) := by decide +kernel
theorem dX11_ask_8 : decode cX11_ask 8 = .ok (.iload_n 2, 1) := by decide +kernel
theorem dX11_ask_9 : decode cX11_ask 9 = .ok (.ifCond .lt 8, 3) := by decide +kernel
theorem dX11_ask_12 : decode cX11_ask 12 = .ok (.iload_n 2, 1) := by decide +kernel
theorem dX11_ask_13 : decode cX11_ask 13 = .ok (.iconst 1, 1) := by decide +kernel
theorem dX11_ask_14 : decode cX11_ask 14 = .ok (.if_icmp .le 6, 3) := by decide +kernel
theorem dX11_ask_17 : decode cX11_ask 17 = .ok (.ldc 84, 2) := by decide +kernel
theorem dX11_ask_19 : decode cX11_ask 19 = .ok (.ireturn, 1) := by decide +kernel
theorem dX11_ask_20 : decode cX11_ask 20 = .ok (.aload_n 0, 1) := by decide +kernel
theorem dX11_ask_21 : decode cX11_ask 21 = .ok (.invokevirtual 196, 3) := by decide +kernel
theorem dX11_ask_24 : decode cX11_ask 24 = .ok (.aload_n 0, 1) := by decide +kernel
theorem dX11_ask_25 : decode cX11_ask 25 = .ok (.getfield 65, 3) := by decide +kernel
theorem dX11_ask_28 : decode cX11_ask 28 = .ok (.aload_n 0, 1) := by decide +kernel
theorem dX11_ask_29 : decode cX11_ask 29 = .ok (.getfield 33, 3) := by decide +kernel
theorem dX11_ask_32 : decode cX11_ask 32 = .ok (.iload_n 1, 1) := by decide +kernel
theorem dX11_ask_33 : decode cX11_ask 33 = .ok (.aload_n 0, 1) := by decide +kernel
theorem dX11_ask_34 : decode cX11_ask 34 = .ok (.getfield 51, 3) := by decide +kernel
theorem dX11_ask_37 : decode cX11_ask 37 = .ok (.getfield 202, 3) := by decide +kernel
theorem dX11_ask_40 : decode cX11_ask 40 = .ok (.getfield 206, 3) := by decide +kernel
theorem dX11_ask_43 : decode cX11_ask 43 = .ok (.iload_n 1, 1) := by decide +kernel
theorem dX11_ask_44 : decode cX11_ask 44 = .ok (.iaload, 1) := by decide +kernel
theorem dX11_ask_45 : decode cX11_ask 45 = .ok (.invokevirtual 321, 3) := by decide +kernel
theorem dX11_ask_48 : decode cX11_ask 48 = .ok (.iload_n 2, 1) := by decide +kernel
theorem dX11_ask_49 : decode cX11_ask 49 = .ok (.ifCond .ne 13, 3) := by decide +kernel
theorem dX11_ask_52 : decode cX11_ask 52 = .ok (.aload_n 0, 1) := by decide +kernel
theorem dX11_ask_53 : decode cX11_ask 53 = .ok (.getfield 65, 3) := by decide +kernel
theorem dX11_ask_56 : decode cX11_ask 56 = .ok (.invokevirtual 324, 3) := by decide +kernel
theorem dX11_ask_59 : decode cX11_ask 59 = .ok (.goto 10, 3) := by decide +kernel
theorem dX11_ask_62 : decode cX11_ask 62 = .ok (.aload_n 0, 1) := by decide +kernel
theorem dX11_ask_63 : decode cX11_ask 63 = .ok (.getfield 65, 3) := by decide +kernel
theorem dX11_ask_66 : decode cX11_ask 66 = .ok (.invokevirtual 327, 3) := by decide +kernel
theorem dX11_ask_69 : decode cX11_ask 69 = .ok (.ireturn, 1) := by decide +kernel
theorem dX11_trace_0 : decode cX11_trace 0 = .ok (.iload_n 1, 1) := by decide +kernel
theorem dX11_trace_1 : decode cX11_trace 1 = .ok (.ifCond .lt 26, 3) := by decide +kernel
theorem dX11_trace_4 : decode cX11_trace 4 = .ok (.iload_n 1, 1) := by decide +kernel
theorem dX11_trace_5 : decode cX11_trace 5 = .ok (.aload_n 0, 1) := by decide +kernel
theorem dX11_trace_6 : decode cX11_trace 6 = .ok (.getfield 65, 3) := by decide +kernel
theorem dX11_trace_9 : decode cX11_trace 9 = .ok (.getfield 330, 3) := by decide +kernel
theorem dX11_trace_12 : decode cX11_trace 12 = .ok (.if_icmp .ge 15, 3) := by decide +kernel
theorem dX11_trace_15 : decode cX11_trace 15 = .ok (.aload_n 0, 1) := by decide +kernel
theorem dX11_trace_16 : decode cX11_trace 16 = .ok (.getfield 65, 3) := by decide +kernel
theorem dX11_trace_19 : decode cX11_trace 19 = .ok (.getfield 333, 3) := by decide +kernel
theorem dX11_trace_22 : decode cX11_trace 22 = .ok (.iload_n 1, 1) := by decide +kernel
theorem dX11_trace_23 : decode cX11_trace 23 = .ok (.iaload, 1) := by decide +kernel
theorem dX11_trace_24 : decode cX11_trace 24 = .ok (.goto 5, 3) := by decide +kernel
theorem dX11_trace_27 : decode cX11_trace 27 = .ok (.ldc 253, 2) := by decide +kernel
theorem dX11_trace_29 : decode cX11_trace 29 = .ok (.ireturn, 1) := by decide +kernel
theorem dX11_count_0 : decode cX11_count 0 = .ok (.iload_n 1, 1) := by decide +kernel
theorem dX11_count_1 : decode cX11_count 1 = .ok (.tableswitch 86 0 6 #[43, 51, 59, 59, 59, 70, 78], 43) := by decide +kernel
theorem dX11_count_44 : decode cX11_count 44 = .ok (.aload_n 0, 1) := by decide +kernel
theorem dX11_count_45 : decode cX11_count 45 = .ok (.getfield 10, 3) := by decide +kernel
theorem dX11_count_48 : decode cX11_count 48 = .ok (.invokevirtual 336, 3) := by decide +kernel
theorem dX11_count_51 : decode cX11_count 51 = .ok (.ireturn, 1) := by decide +kernel
theorem dX11_count_52 : decode cX11_count 52 = .ok (.aload_n 0, 1) := by decide +kernel
theorem dX11_count_53 : decode cX11_count 53 = .ok (.getfield 33, 3) := by decide +kernel
theorem dX11_count_56 : decode cX11_count 56 = .ok (.getfield 146, 3) := by decide +kernel
theorem dX11_count_59 : decode cX11_count 59 = .ok (.ireturn, 1) := by decide +kernel
theorem dX11_count_60 : decode cX11_count 60 = .ok (.aload_n 0, 1) := by decide +kernel
theorem dX11_count_61 : decode cX11_count 61 = .ok (.getfield 33, 3) := by decide +kernel
theorem dX11_count_64 : decode cX11_count 64 = .ok (.iload_n 1, 1) := by decide +kernel
theorem dX11_count_65 : decode cX11_count 65 = .ok (.iconst 2, 1) := by decide +kernel
theorem dX11_count_66 : decode cX11_count 66 = .ok (.isub, 1) := by decide +kernel
theorem dX11_count_67 : decode cX11_count 67 = .ok (.invokevirtual 339, 3) := by decide +kernel
theorem dX11_count_70 : decode cX11_count 70 = .ok (.ireturn, 1) := by decide +kernel
theorem dX11_count_71 : decode cX11_count 71 = .ok (.aload_n 0, 1) := by decide +kernel
theorem dX11_count_72 : decode cX11_count 72 = .ok (.getfield 40, 3) := by decide +kernel
theorem dX11_count_75 : decode cX11_count 75 = .ok (.getfield 149, 3) := by decide +kernel
theorem dX11_count_78 : decode cX11_count 78 = .ok (.ireturn, 1) := by decide +kernel
theorem dX11_count_79 : decode cX11_count 79 = .ok (.aload_n 0, 1) := by decide +kernel
theorem dX11_count_80 : decode cX11_count 80 = .ok (.getfield 19, 3) := by decide +kernel
theorem dX11_count_83 : decode cX11_count 83 = .ok (.getfield 121, 3) := by decide +kernel
theorem dX11_count_86 : decode cX11_count 86 = .ok (.ireturn, 1) := by decide +kernel
theorem dX11_count_87 : decode cX11_count 87 = .ok (.ldc 84, 2) := by decide +kernel
theorem dX11_count_89 : decode cX11_count 89 = .ok (.ireturn, 1) := by decide +kernel
theorem dX11_status_0 : decode cX11_status 0 = .ok (.aload_n 0, 1) := by decide +kernel
theorem dX11_status_1 : decode cX11_status 1 = .ok (.getfield 77, 3) := by decide +kernel
theorem dX11_status_4 : decode cX11_status 4 = .ok (.ireturn, 1) := by decide +kernel
theorem dX11_isRow_0 : decode cX11_isRow 0 = .ok (.iload_n 0, 1) := by decide +kernel
theorem dX11_isRow_1 : decode cX11_isRow 1 = .ok (.ifCond .lt 13, 3) := by decide +kernel
theorem dX11_isRow_4 : decode cX11_isRow 4 = .ok (.iload_n 0, 1) := by decide +kernel
theorem dX11_isRow_5 : decode cX11_isRow 5 = .ok (.bipush 8, 2) := by decide +kernel
theorem dX11_isRow_7 : decode cX11_isRow 7 = .ok (.if_icmp .ge 7, 3) := by decide +kernel
theorem dX11_isRow_10 : decode cX11_isRow 10 = .ok (.iconst 1, 1) := by decide +kernel
theorem dX11_isRow_11 : decode cX11_isRow 11 = .ok (.goto 4, 3) := by decide +kernel
theorem dX11_isRow_14 : decode cX11_isRow 14 = .ok (.iconst 0, 1) := by decide +kernel
theorem dX11_isRow_15 : decode cX11_isRow 15 = .ok (.ireturn, 1) := by decide +kernel
theorem dX11_isMeasure_0 : decode cX11_isMeasure 0 = .ok (.iload_n 0, 1) := by decide +kernel
theorem dX11_isMeasure_1 : decode cX11_isMeasure 1 = .ok (.ifCond .lt 13, 3) := by decide +kernel
theorem dX11_isMeasure_4 : decode cX11_isMeasure 4 = .ok (.iload_n 0, 1) := by decide +kernel
theorem dX11_isMeasure_5 : decode cX11_isMeasure 5 = .ok (.bipush 30, 2) := by decide +kernel
theorem dX11_isMeasure_7 : decode cX11_isMeasure 7 = .ok (.if_icmp .gt 7, 3) := by decide +kernel
theorem dX11_isMeasure_10 : decode cX11_isMeasure 10 = .ok (.iconst 1, 1) := by decide +kernel
theorem dX11_isMeasure_11 : decode cX11_isMeasure 11 = .ok (.goto 4, 3) := by decide +kernel
theorem dX11_isMeasure_14 : decode cX11_isMeasure 14 = .ok (.iconst 0, 1) := by decide +kernel
theorem dX11_isMeasure_15 : decode cX11_isMeasure 15 = .ok (.ireturn, 1) := by decide +kernel
theorem dX11_isKindOfPage_0 : decode cX11_isKindOfPage 0 = .ok (.iload_n 0, 1) := by decide +kernel
theorem dX11_isKindOfPage_1 : decode cX11_isKindOfPage 1 = .ok (.iconst 1, 1) := by decide +kernel
theorem dX11_isKindOfPage_2 : decode cX11_isKindOfPage 2 = .ok (.if_icmp .lt 12, 3) := by decide +kernel
theorem dX11_isKindOfPage_5 : decode cX11_isKindOfPage 5 = .ok (.iload_n 0, 1) := by decide +kernel
theorem dX11_isKindOfPage_6 : decode cX11_isKindOfPage 6 = .ok (.iconst 5, 1) := by decide +kernel
theorem dX11_isKindOfPage_7 : decode cX11_isKindOfPage 7 = .ok (.if_icmp .gt 7, 3) := by decide +kernel
theorem dX11_isKindOfPage_10 : decode cX11_isKindOfPage 10 = .ok (.iconst 1, 1) := by decide +kernel
theorem dX11_isKindOfPage_11 : decode cX11_isKindOfPage 11 = .ok (.goto 4, 3) := by decide +kernel
theorem dX11_isKindOfPage_14 : decode cX11_isKindOfPage 14 = .ok (.iconst 0, 1) := by decide +kernel
theorem dX11_isKindOfPage_15 : decode cX11_isKindOfPage 15 = .ok (.ireturn, 1) := by decide +kernel
theorem dX11_isPage_0 : decode cX11_isPage 0 = .ok (.iload_n 1, 1) := by decide +kernel
theorem dX11_isPage_1 : decode cX11_isPage 1 = .ok (.ifCond .lt 18, 3) := by decide +kernel
theorem dX11_isPage_4 : decode cX11_isPage 4 = .ok (.iload_n 1, 1) := by decide +kernel
theorem dX11_isPage_5 : decode cX11_isPage 5 = .ok (.aload_n 0, 1) := by decide +kernel
theorem dX11_isPage_6 : decode cX11_isPage 6 = .ok (.getfield 33, 3) := by decide +kernel
theorem dX11_isPage_9 : decode cX11_isPage 9 = .ok (.getfield 146, 3) := by decide +kernel
theorem dX11_isPage_12 : decode cX11_isPage 12 = .ok (.if_icmp .ge 7, 3) := by decide +kernel
theorem dX11_isPage_15 : decode cX11_isPage 15 = .ok (.iconst 1, 1) := by decide +kernel
theorem dX11_isPage_16 : decode cX11_isPage 16 = .ok (.goto 4, 3) := by decide +kernel
theorem dX11_isPage_19 : decode cX11_isPage 19 = .ok (.iconst 0, 1) := by decide +kernel
theorem dX11_isPage_20 : decode cX11_isPage 20 = .ok (.ireturn, 1) := by decide +kernel
theorem dX11_isWithoutBook_0 : decode cX11_isWithoutBook 0 = .ok (.aload_n 0, 1) := by decide +kernel
theorem dX11_isWithoutBook_1 : decode cX11_isWithoutBook 1 = .ok (.getfield 33, 3) := by decide +kernel
theorem dX11_isWithoutBook_4 : decode cX11_isWithoutBook 4 = .ok (.getfield 146, 3) := by decide +kernel
theorem dX11_isWithoutBook_7 : decode cX11_isWithoutBook 7 = .ok (.ifCond .ne 7, 3) := by decide +kernel
theorem dX11_isWithoutBook_10 : decode cX11_isWithoutBook 10 = .ok (.iconst 1, 1) := by decide +kernel
theorem dX11_isWithoutBook_11 : decode cX11_isWithoutBook 11 = .ok (.goto 4, 3) := by decide +kernel
theorem dX11_isWithoutBook_14 : decode cX11_isWithoutBook 14 = .ok (.iconst 0, 1) := by decide +kernel
theorem dX11_isWithoutBook_15 : decode cX11_isWithoutBook 15 = .ok (.ireturn, 1) := by decide +kernel
theorem dX11_finds_0 : decode cX11_finds 0 = .ok (.aload_n 0, 1) := by decide +kernel
theorem dX11_finds_1 : decode cX11_finds 1 = .ok (.iload_n 1, 1) := by decide +kernel
theorem dX11_finds_2 : decode cX11_finds 2 = .ok (.putfield 77, 3) := by decide +kernel
theorem dX11_finds_5 : decode cX11_finds 5 = .ok (.ldc_w 342, 3) := by decide +kernel
theorem dX11_finds_8 : decode cX11_finds 8 = .ok (.iload_n 1, 1) := by decide +kernel
theorem dX11_finds_9 : decode cX11_finds 9 = .ok (.isub, 1) := by decide +kernel
theorem dX11_finds_10 : decode cX11_finds 10 = .ok (.ireturn, 1) := by decide +kernel
theorem dX11_begin_0 : decode cX11_begin 0 = .ok (.aload_n 0, 1) := by decide +kernel
theorem dX11_begin_1 : decode cX11_begin 1 = .ok (.getfield 33, 3) := by decide +kernel
theorem dX11_begin_4 : decode cX11_begin 4 = .ok (.aload_n 1, 1) := by decide +kernel
theorem dX11_begin_5 : decode cX11_begin 5 = .ok (.invokevirtual 314, 3) := by decide +kernel
theorem dX11_begin_8 : decode cX11_begin 8 = .ok (.aload_n 0, 1) := by decide +kernel
theorem dX11_begin_9 : decode cX11_begin 9 = .ok (.getfield 40, 3) := by decide +kernel
theorem dX11_begin_12 : decode cX11_begin 12 = .ok (.invokevirtual 343, 3) := by decide +kernel
theorem dX11_begin_15 : decode cX11_begin 15 = .ok (.aload_n 0, 1) := by decide +kernel
theorem dX11_begin_16 : decode cX11_begin 16 = .ok (.iconst 0, 1) := by decide +kernel
theorem dX11_begin_17 : decode cX11_begin 17 = .ok (.putfield 69, 3) := by decide +kernel
theorem dX11_begin_20 : decode cX11_begin 20 = .ok (.return_, 1) := by decide +kernel
theorem dX11_beginAct_0 : decode cX11_beginAct 0 = .ok (.aload_n 0, 1) := by decide +kernel
theorem dX11_beginAct_1 : decode cX11_beginAct 1 = .ok (.getfield 40, 3) := by decide +kernel
theorem dX11_beginAct_4 : decode cX11_beginAct 4 = .ok (.aload_n 0, 1) := by decide +kernel
theorem dX11_beginAct_5 : decode cX11_beginAct 5 = .ok (.getfield 33, 3) := by decide +kernel
theorem dX11_beginAct_8 : decode cX11_beginAct 8 = .ok (.invokevirtual 346, 3) := by decide +kernel
theorem dX11_beginAct_11 : decode cX11_beginAct 11 = .ok (.aload_n 0, 1) := by decide +kernel
theorem dX11_beginAct_12 : decode cX11_beginAct 12 = .ok (.iconst 0, 1) := by decide +kernel
theorem dX11_beginAct_13 : decode cX11_beginAct 13 = .ok (.putfield 69, 3) := by decide +kernel
theorem dX11_beginAct_16 : decode cX11_beginAct 16 = .ok (.return_, 1) := by decide +kernel
theorem dX11_look_0 : decode cX11_look 0 = .ok (.aload_n 0, 1) := by decide +kernel
theorem dX11_look_1 : decode cX11_look 1 = .ok (.getfield 69, 3) := by decide +kernel
theorem dX11_look_4 : decode cX11_look 4 = .ok (.ifCond .ne 19, 3) := by decide +kernel
theorem dX11_look_7 : decode cX11_look 7 = .ok (.aload_n 0, 1) := by decide +kernel
theorem dX11_look_8 : decode cX11_look 8 = .ok (.getfield 51, 3) := by decide +kernel
theorem dX11_look_11 : decode cX11_look 11 = .ok (.aload_n 0, 1) := by decide +kernel
theorem dX11_look_12 : decode cX11_look 12 = .ok (.getfield 33, 3) := by decide +kernel
theorem dX11_look_15 : decode cX11_look 15 = .ok (.invokevirtual 349, 3) := by decide +kernel
theorem dX11_look_18 : decode cX11_look 18 = .ok (.aload_n 0, 1) := by decide +kernel
theorem dX11_look_19 : decode cX11_look 19 = .ok (.iconst 1, 1) := by decide +kernel
theorem dX11_look_20 : decode cX11_look 20 = .ok (.putfield 69, 3) := by decide +kernel
theorem dX11_look_23 : decode cX11_look 23 = .ok (.return_, 1) := by decide +kernel
theorem dX11_answer_0 : decode cX11_answer 0 = .ok (.iload_n 1, 1) := by decide +kernel
theorem dX11_answer_1 : decode cX11_answer 1 = .ok (.tableswitch 154 0 8 #[51, 62, 73, 84, 97, 105, 130, 138, 146], 51) := by decide +kernel
theorem dX11_answer_52 : decode cX11_answer 52 = .ok (.aload_n 0, 1) := by decide +kernel
theorem dX11_answer_53 : decode cX11_answer 53 = .ok (.getfield 51, 3) := by decide +kernel
theorem dX11_answer_56 : decode cX11_answer 56 = .ok (.getfield 202, 3) := by decide +kernel
theorem dX11_answer_59 : decode cX11_answer 59 = .ok (.getfield 238, 3) := by decide +kernel
theorem dX11_answer_62 : decode cX11_answer 62 = .ok (.ireturn, 1) := by decide +kernel
theorem dX11_answer_63 : decode cX11_answer 63 = .ok (.aload_n 0, 1) := by decide +kernel
theorem dX11_answer_64 : decode cX11_answer 64 = .ok (.getfield 51, 3) := by decide +kernel
theorem dX11_answer_67 : decode cX11_answer 67 = .ok (.getfield 211, 3) := by decide +kernel
theorem dX11_answer_70 : decode cX11_answer 70 = .ok (.invokestatic 352, 3) := by decide +kernel
theorem dX11_answer_73 : decode cX11_answer 73 = .ok (.ireturn, 1) := by decide +kernel
theorem dX11_answer_74 : decode cX11_answer 74 = .ok (.aload_n 0, 1) := by decide +kernel
theorem dX11_answer_75 : decode cX11_answer 75 = .ok (.getfield 51, 3) := by decide +kernel
theorem dX11_answer_78 : decode cX11_answer 78 = .ok (.getfield 214, 3) := by decide +kernel
theorem dX11_answer_81 : decode cX11_answer 81 = .ok (.getfield 245, 3) := by decide +kernel
theorem dX11_answer_84 : decode cX11_answer 84 = .ok (.ireturn, 1) := by decide +kernel
theorem dX11_answer_85 : decode cX11_answer 85 = .ok (.aload_n 0, 1) := by decide +kernel
theorem dX11_answer_86 : decode cX11_answer 86 = .ok (.getfield 51, 3) := by decide +kernel
theorem dX11_answer_89 : decode cX11_answer 89 = .ok (.getfield 214, 3) := by decide +kernel
theorem dX11_answer_92 : decode cX11_answer 92 = .ok (.getfield 356, 3) := by decide +kernel
theorem dX11_answer_95 : decode cX11_answer 95 = .ok (.iconst 0, 1) := by decide +kernel
theorem dX11_answer_96 : decode cX11_answer 96 = .ok (.iaload, 1) := by decide +kernel
theorem dX11_answer_97 : decode cX11_answer 97 = .ok (.ireturn, 1) := by decide +kernel
theorem dX11_answer_98 : decode cX11_answer 98 = .ok (.aload_n 0, 1) := by decide +kernel
theorem dX11_answer_99 : decode cX11_answer 99 = .ok (.getfield 51, 3) := by decide +kernel
theorem dX11_answer_102 : decode cX11_answer 102 = .ok (.getfield 359, 3) := by decide +kernel
theorem dX11_answer_105 : decode cX11_answer 105 = .ok (.ireturn, 1) := by decide +kernel
theorem dX11_answer_106 : decode cX11_answer 106 = .ok (.aload_n 0, 1) := by decide +kernel
theorem dX11_answer_107 : decode cX11_answer 107 = .ok (.getfield 51, 3) := by decide +kernel
theorem dX11_answer_110 : decode cX11_answer 110 = .ok (.getfield 202, 3) := by decide +kernel
theorem dX11_answer_113 : decode cX11_answer 113 = .ok (.getfield 223, 3) := by decide +kernel
theorem dX11_answer_116 : decode cX11_answer 116 = .ok (.iconst 1, 1) := by decide +kernel
theorem dX11_answer_117 : decode cX11_answer 117 = .ok (.aload_n 0, 1) := by decide +kernel
theorem dX11_answer_118 : decode cX11_answer 118 = .ok (.getfield 33, 3) := by decide +kernel
theorem dX11_answer_121 : decode cX11_answer 121 = .ok (.getfield 146, 3) := by decide +kernel
theorem dX11_answer_124 : decode cX11_answer 124 = .ok (.ishl, 1) := by decide +kernel
theorem dX11_answer_125 : decode cX11_answer 125 = .ok (.iconst 1, 1) := by decide +kernel
theorem dX11_answer_126 : decode cX11_answer 126 = .ok (.isub, 1) := by decide +kernel
theorem dX11_answer_127 : decode cX11_answer 127 = .ok (.invokevirtual 232, 3) := by decide +kernel
theorem dX11_answer_130 : decode cX11_answer 130 = .ok (.ireturn, 1) := by decide +kernel
theorem dX11_answer_131 : decode cX11_answer 131 = .ok (.aload_n 0, 1) := by decide +kernel
theorem dX11_answer_132 : decode cX11_answer 132 = .ok (.getfield 33, 3) := by decide +kernel
theorem dX11_answer_135 : decode cX11_answer 135 = .ok (.getfield 190, 3) := by decide +kernel
theorem dX11_answer_138 : decode cX11_answer 138 = .ok (.ireturn, 1) := by decide +kernel
theorem dX11_answer_139 : decode cX11_answer 139 = .ok (.aload_n 0, 1) := by decide +kernel
theorem dX11_answer_140 : decode cX11_answer 140 = .ok (.getfield 33, 3) := by decide +kernel
theorem dX11_answer_143 : decode cX11_answer 143 = .ok (.getfield 193, 3) := by decide +kernel
theorem dX11_answer_146 : decode cX11_answer 146 = .ok (.ireturn, 1) := by decide +kernel
theorem dX11_answer_147 : decode cX11_answer 147 = .ok (.aload_n 0, 1) := by decide +kernel
theorem dX11_answer_148 : decode cX11_answer 148 = .ok (.getfield 51, 3) := by decide +kernel
theorem dX11_answer_151 : decode cX11_answer 151 = .ok (.getfield 249, 3) := by decide +kernel
theorem dX11_answer_154 : decode cX11_answer 154 = .ok (.ireturn, 1) := by decide +kernel
theorem dX11_answer_155 : decode cX11_answer 155 = .ok (.aload_n 0, 1) := by decide +kernel
theorem dX11_answer_156 : decode cX11_answer 156 = .ok (.getfield 33, 3) := by decide +kernel
theorem dX11_answer_159 : decode cX11_answer 159 = .ok (.getfield 146, 3) := by decide +kernel
theorem dX11_answer_162 : decode cX11_answer 162 = .ok (.ireturn, 1) := by decide +kernel
theorem dX11_isSuch_0 : decode cX11_isSuch 0 = .ok (.iload_n 0, 1) := by decide +kernel
theorem dX11_isSuch_1 : decode cX11_isSuch 1 = .ok (.istore_n 2, 1) := by decide +kernel
theorem dX11_isSuch_2 : decode cX11_isSuch 2 = .ok (.iconst 0, 1) := by decide +kernel
theorem dX11_isSuch_3 : decode cX11_isSuch 3 = .ok (.istore_n 3, 1) := by decide +kernel
theorem dX11_isSuch_4 : decode cX11_isSuch 4 = .ok (.iload_n 3, 1) := by decide +kernel
theorem dX11_isSuch_5 : decode cX11_isSuch 5 = .ok (.iconst 5, 1) := by decide +kernel
theorem dX11_isSuch_6 : decode cX11_isSuch 6 = .ok (.if_icmp .gt 31, 3) := by decide +kernel
theorem dX11_isSuch_9 : decode cX11_isSuch 9 = .ok (.iload_n 2, 1) := by decide +kernel
theorem dX11_isSuch_10 : decode cX11_isSuch 10 = .ok (.ifCond .lt 27, 3) := by decide +kernel
theorem dX11_isSuch_13 : decode cX11_isSuch 13 = .ok (.iload_n 2, 1) := by decide +kernel
theorem dX11_isSuch_14 : decode cX11_isSuch 14 = .ok (.iconst 5, 1) := by decide +kernel
theorem dX11_isSuch_15 : decode cX11_isSuch 15 = .ok (.if_icmp .gt 22, 3) := by decide +kernel
theorem dX11_isSuch_18 : decode cX11_isSuch 18 = .ok (.iload_n 2, 1) := by decide +kernel
theorem dX11_isSuch_19 : decode cX11_isSuch 19 = .ok (.iload_n 1, 1) := by decide +kernel
theorem dX11_isSuch_20 : decode cX11_isSuch 20 = .ok (.if_icmp .ne 5, 3) := by decide +kernel
theorem dX11_isSuch_23 : decode cX11_isSuch 23 = .ok (.iconst 1, 1) := by decide +kernel
theorem dX11_isSuch_24 : decode cX11_isSuch 24 = .ok (.ireturn, 1) := by decide +kernel
theorem dX11_isSuch_25 : decode cX11_isSuch 25 = .ok (.getstatic 362, 3) := by decide +kernel
theorem dX11_isSuch_28 : decode cX11_isSuch 28 = .ok (.iload_n 2, 1) := by decide +kernel
theorem dX11_isSuch_29 : decode cX11_isSuch 29 = .ok (.iaload, 1) := by decide +kernel
theorem dX11_isSuch_30 : decode cX11_isSuch 30 = .ok (.istore_n 2, 1) := by decide +kernel
theorem dX11_isSuch_31 : decode cX11_isSuch 31 = .ok (.iinc 3 1, 3) := by decide +kernel
theorem dX11_isSuch_34 : decode cX11_isSuch 34 = .ok (.goto (-30), 3) := by decide +kernel
theorem dX11_isSuch_37 : decode cX11_isSuch 37 = .ok (.iconst 0, 1) := by decide +kernel
theorem dX11_isSuch_38 : decode cX11_isSuch 38 = .ok (.ireturn, 1) := by decide +kernel
theorem dX11_power_0 : decode cX11_power 0 = .ok (.lconst 1, 1) := by decide +kernel
theorem dX11_power_1 : decode cX11_power 1 = .ok (.lstore_n 2, 1) := by decide +kernel
theorem dX11_power_2 : decode cX11_power 2 = .ok (.iconst 0, 1) := by decide +kernel
theorem dX11_power_3 : decode cX11_power 3 = .ok (.istore 4, 2) := by decide +kernel
theorem dX11_power_5 : decode cX11_power 5 = .ok (.iload 4, 2) := by decide +kernel
theorem dX11_power_7 : decode cX11_power 7 = .ok (.iload_n 1, 1) := by decide +kernel
theorem dX11_power_8 : decode cX11_power 8 = .ok (.if_icmp .ge 14, 3) := by decide +kernel
theorem dX11_power_11 : decode cX11_power 11 = .ok (.lload_n 2, 1) := by decide +kernel
theorem dX11_power_12 : decode cX11_power 12 = .ok (.iload_n 0, 1) := by decide +kernel
theorem dX11_power_13 : decode cX11_power 13 = .ok (.i2l, 1) := by decide +kernel
theorem dX11_power_14 : decode cX11_power 14 = .ok (.lmul, 1) := by decide +kernel
theorem dX11_power_15 : decode cX11_power 15 = .ok (.lstore_n 2, 1) := by decide +kernel
theorem dX11_power_16 : decode cX11_power 16 = .ok (.iinc 4 1, 3) := by decide +kernel
theorem dX11_power_19 : decode cX11_power 19 = .ok (.goto (-14), 3) := by decide +kernel
theorem dX11_power_22 : decode cX11_power 22 = .ok (.lload_n 2, 1) := by decide +kernel
theorem dX11_power_23 : decode cX11_power 23 = .ok (.lreturn, 1) := by decide +kernel
theorem dX11_sharedDivisor_0 : decode cX11_sharedDivisor 0 = .ok (.lload_n 2, 1) := by decide +kernel
theorem dX11_sharedDivisor_1 : decode cX11_sharedDivisor 1 = .ok (.lstore 4, 2) := by decide +kernel
theorem dX11_sharedDivisor_3 : decode cX11_sharedDivisor 3 = .ok (.lload_n 0, 1) := by decide +kernel
theorem dX11_sharedDivisor_4 : decode cX11_sharedDivisor 4 = .ok (.lstore 6, 2) := by decide +kernel
theorem dX11_sharedDivisor_6 : decode cX11_sharedDivisor 6 = .ok (.iconst 0, 1) := by decide +kernel
theorem dX11_sharedDivisor_7 : decode cX11_sharedDivisor 7 = .ok (.istore 8, 2) := by decide +kernel
theorem dX11_sharedDivisor_9 : decode cX11_sharedDivisor 9 = .ok (.iload 8, 2) := by decide +kernel
theorem dX11_sharedDivisor_11 : decode cX11_sharedDivisor 11 = .ok (.bipush 100, 2) := by decide +kernel
theorem dX11_sharedDivisor_13 : decode cX11_sharedDivisor 13 = .ok (.if_icmp .ge 31, 3) := by decide +kernel
theorem dX11_sharedDivisor_16 : decode cX11_sharedDivisor 16 = .ok (.lload 6, 2) := by decide +kernel
theorem dX11_sharedDivisor_18 : decode cX11_sharedDivisor 18 = .ok (.lconst 0, 1) := by decide +kernel
theorem dX11_sharedDivisor_19 : decode cX11_sharedDivisor 19 = .ok (.lcmp, 1) := by decide +kernel
theorem dX11_sharedDivisor_20 : decode cX11_sharedDivisor 20 = .ok (.ifCond .le 24, 3) := by decide +kernel
theorem dX11_sharedDivisor_23 : decode cX11_sharedDivisor 23 = .ok (.lload 4, 2) := by decide +kernel
theorem dX11_sharedDivisor_25 : decode cX11_sharedDivisor 25 = .ok (.lload 6, 2) := by decide +kernel
theorem dX11_sharedDivisor_27 : decode cX11_sharedDivisor 27 = .ok (.lrem, 1) := by decide +kernel
theorem dX11_sharedDivisor_28 : decode cX11_sharedDivisor 28 = .ok (.lstore 9, 2) := by decide +kernel
theorem dX11_sharedDivisor_30 : decode cX11_sharedDivisor 30 = .ok (.lload 6, 2) := by decide +kernel
theorem dX11_sharedDivisor_32 : decode cX11_sharedDivisor 32 = .ok (.lstore 4, 2) := by decide +kernel
theorem dX11_sharedDivisor_34 : decode cX11_sharedDivisor 34 = .ok (.lload 9, 2) := by decide +kernel
theorem dX11_sharedDivisor_36 : decode cX11_sharedDivisor 36 = .ok (.lstore 6, 2) := by decide +kernel
theorem dX11_sharedDivisor_38 : decode cX11_sharedDivisor 38 = .ok (.iinc 8 1, 3) := by decide +kernel
theorem dX11_sharedDivisor_41 : decode cX11_sharedDivisor 41 = .ok (.goto (-32), 3) := by decide +kernel
theorem dX11_sharedDivisor_44 : decode cX11_sharedDivisor 44 = .ok (.lload 4, 2) := by decide +kernel
theorem dX11_sharedDivisor_46 : decode cX11_sharedDivisor 46 = .ok (.lreturn, 1) := by decide +kernel
