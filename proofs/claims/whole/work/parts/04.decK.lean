theorem dX0_init_0 : decode cX0_init 0 = .ok (.aload_n 0, 1) := by decide +kernel
theorem dX0_init_1 : decode cX0_init 1 = .ok (.invokespecial 3, 3) := by decide +kernel
theorem dX0_init_4 : decode cX0_init 4 = .ok (.aload_n 0, 1) := by decide +kernel
theorem dX0_init_5 : decode cX0_init 5 = .ok (.bipush 24, 2) := by decide +kernel
theorem dX0_init_7 : decode cX0_init 7 = .ok (.anewarray 9, 3) := by decide +kernel
theorem dX0_init_10 : decode cX0_init 10 = .ok (.putfield 11, 3) := by decide +kernel
theorem dX0_init_13 : decode cX0_init 13 = .ok (.aload_n 0, 1) := by decide +kernel
theorem dX0_init_14 : decode cX0_init 14 = .ok (.iconst 0, 1) := by decide +kernel
theorem dX0_init_15 : decode cX0_init 15 = .ok (.putfield 17, 3) := by decide +kernel
theorem dX0_init_18 : decode cX0_init 18 = .ok (.aload_n 0, 1) := by decide +kernel
theorem dX0_init_19 : decode cX0_init 19 = .ok (.iconst 0, 1) := by decide +kernel
theorem dX0_init_20 : decode cX0_init 20 = .ok (.putfield 21, 3) := by decide +kernel
theorem dX0_init_23 : decode cX0_init 23 = .ok (.iconst 0, 1) := by decide +kernel
theorem dX0_init_24 : decode cX0_init 24 = .ok (.istore_n 1, 1) := by decide +kernel
theorem dX0_init_25 : decode cX0_init 25 = .ok (.iload_n 1, 1) := by decide +kernel
theorem dX0_init_26 : decode cX0_init 26 = .ok (.bipush 24, 2) := by decide +kernel
theorem dX0_init_28 : decode cX0_init 28 = .ok (.if_icmp .ge 22, 3) := by decide +kernel
theorem dX0_init_31 : decode cX0_init 31 = .ok (.aload_n 0, 1) := by decide +kernel
theorem dX0_init_32 : decode cX0_init 32 = .ok (.getfield 11, 3) := by decide +kernel
theorem dX0_init_35 : decode cX0_init 35 = .ok (.iload_n 1, 1) := by decide +kernel
theorem dX0_init_36 : decode cX0_init 36 = .ok (.new 9, 3) := by decide +kernel
theorem dX0_init_39 : decode cX0_init 39 = .ok (.dup, 1) := by decide +kernel
theorem dX0_init_40 : decode cX0_init 40 = .ok (.invokespecial 24, 3) := by decide +kernel
theorem dX0_init_43 : decode cX0_init 43 = .ok (.aastore, 1) := by decide +kernel
theorem dX0_init_44 : decode cX0_init 44 = .ok (.iinc 1 1, 3) := by decide +kernel
theorem dX0_init_47 : decode cX0_init 47 = .ok (.goto (-22), 3) := by decide +kernel
theorem dX0_init_50 : decode cX0_init 50 = .ok (.return_, 1) := by decide +kernel
theorem dX0_forgetAll_0 : decode cX0_forgetAll 0 = .ok (.aload_n 0, 1) := by decide +kernel
theorem dX0_forgetAll_1 : decode cX0_forgetAll 1 = .ok (.iconst 0, 1) := by decide +kernel
theorem dX0_forgetAll_2 : decode cX0_forgetAll 2 = .ok (.putfield 21, 3) := by decide +kernel
theorem dX0_forgetAll_5 : decode cX0_forgetAll 5 = .ok (.return_, 1) := by decide +kernel
theorem dX0_keep_0 : decode cX0_keep 0 = .ok (.aload_n 0, 1) := by decide +kernel
theorem dX0_keep_1 : decode cX0_keep 1 = .ok (.getfield 11, 3) := by decide +kernel
theorem dX0_keep_4 : decode cX0_keep 4 = .ok (.aload_n 0, 1) := by decide +kernel
theorem dX0_keep_5 : decode cX0_keep 5 = .ok (.getfield 17, 3) := by decide +kernel
theorem dX0_keep_8 : decode cX0_keep 8 = .ok (.aload_n 0, 1) := by decide +kernel
theorem dX0_keep_9 : decode cX0_keep 9 = .ok (.getfield 21, 3) := by decide +kernel
theorem dX0_keep_12 : decode cX0_keep 12 = .ok (.iadd, 1) := by decide +kernel
theorem dX0_keep_13 : decode cX0_keep 13 = .ok (.bipush 24, 2) := by decide +kernel
theorem dX0_keep_15 : decode cX0_keep 15 = .ok (.irem, 1) := by decide +kernel
theorem dX0_keep_16 : decode cX0_keep 16 = .ok (.aaload, 1) := by decide +kernel
theorem dX0_keep_17 : decode cX0_keep 17 = .ok (.aload_n 1, 1) := by decide +kernel
theorem dX0_keep_18 : decode cX0_keep 18 = .ok (.invokevirtual 25, 3) := by decide +kernel
theorem dX0_keep_21 : decode cX0_keep 21 = .ok (.aload_n 0, 1) := by decide +kernel
theorem dX0_keep_22 : decode cX0_keep 22 = .ok (.getfield 21, 3) := by decide +kernel
theorem dX0_keep_25 : decode cX0_keep 25 = .ok (.bipush 24, 2) := by decide +kernel
theorem dX0_keep_27 : decode cX0_keep 27 = .ok (.if_icmp .ge 16, 3) := by decide +kernel
theorem dX0_keep_30 : decode cX0_keep 30 = .ok (.aload_n 0, 1) := by decide +kernel
theorem dX0_keep_31 : decode cX0_keep 31 = .ok (.dup, 1) := by decide +kernel
theorem dX0_keep_32 : decode cX0_keep 32 = .ok (.getfield 21, 3) := by decide +kernel
theorem dX0_keep_35 : decode cX0_keep 35 = .ok (.iconst 1, 1) := by decide +kernel
theorem dX0_keep_36 : decode cX0_keep 36 = .ok (.iadd, 1) := by decide +kernel
theorem dX0_keep_37 : decode cX0_keep 37 = .ok (.putfield 21, 3) := by decide +kernel
theorem dX0_keep_40 : decode cX0_keep 40 = .ok (.goto 16, 3) := by decide +kernel
theorem dX0_keep_43 : decode cX0_keep 43 = .ok (.aload_n 0, 1) := by decide +kernel
theorem dX0_keep_44 : decode cX0_keep 44 = .ok (.aload_n 0, 1) := by decide +kernel
theorem dX0_keep_45 : decode cX0_keep 45 = .ok (.getfield 17, 3) := by decide +kernel
theorem dX0_keep_48 : decode cX0_keep 48 = .ok (.iconst 1, 1) := by decide +kernel
theorem dX0_keep_49 : decode cX0_keep 49 = .ok (.iadd, 1) := by decide +kernel
theorem dX0_keep_50 : decode cX0_keep 50 = .ok (.bipush 24, 2) := by decide +kernel
theorem dX0_keep_52 : decode cX0_keep 52 = .ok (.irem, 1) := by decide +kernel
theorem dX0_keep_53 : decode cX0_keep 53 = .ok (.putfield 17, 3) := by decide +kernel
theorem dX0_keep_56 : decode cX0_keep 56 = .ok (.return_, 1) := by decide +kernel
theorem dX0_goBack_0 : decode cX0_goBack 0 = .ok (.aload_n 0, 1) := by decide +kernel
theorem dX0_goBack_1 : decode cX0_goBack 1 = .ok (.getfield 21, 3) := by decide +kernel
theorem dX0_goBack_4 : decode cX0_goBack 4 = .ok (.ifCond .le 34, 3) := by decide +kernel
theorem dX0_goBack_7 : decode cX0_goBack 7 = .ok (.aload_n 0, 1) := by decide +kernel
theorem dX0_goBack_8 : decode cX0_goBack 8 = .ok (.dup, 1) := by decide +kernel
theorem dX0_goBack_9 : decode cX0_goBack 9 = .ok (.getfield 21, 3) := by decide +kernel
theorem dX0_goBack_12 : decode cX0_goBack 12 = .ok (.iconst 1, 1) := by decide +kernel
theorem dX0_goBack_13 : decode cX0_goBack 13 = .ok (.isub, 1) := by decide +kernel
theorem dX0_goBack_14 : decode cX0_goBack 14 = .ok (.putfield 21, 3) := by decide +kernel
theorem dX0_goBack_17 : decode cX0_goBack 17 = .ok (.aload_n 1, 1) := by decide +kernel
theorem dX0_goBack_18 : decode cX0_goBack 18 = .ok (.aload_n 0, 1) := by decide +kernel
theorem dX0_goBack_19 : decode cX0_goBack 19 = .ok (.getfield 11, 3) := by decide +kernel
theorem dX0_goBack_22 : decode cX0_goBack 22 = .ok (.aload_n 0, 1) := by decide +kernel
theorem dX0_goBack_23 : decode cX0_goBack 23 = .ok (.getfield 17, 3) := by decide +kernel
theorem dX0_goBack_26 : decode cX0_goBack 26 = .ok (.aload_n 0, 1) := by decide +kernel
theorem dX0_goBack_27 : decode cX0_goBack 27 = .ok (.getfield 21, 3) := by decide +kernel
theorem dX0_goBack_30 : decode cX0_goBack 30 = .ok (.iadd, 1) := by decide +kernel
theorem dX0_goBack_31 : decode cX0_goBack 31 = .ok (.bipush 24, 2) := by decide +kernel
theorem dX0_goBack_33 : decode cX0_goBack 33 = .ok (.irem, 1) := by decide +kernel
theorem dX0_goBack_34 : decode cX0_goBack 34 = .ok (.aaload, 1) := by decide +kernel
theorem dX0_goBack_35 : decode cX0_goBack 35 = .ok (.invokevirtual 25, 3) := by decide +kernel
theorem dX0_goBack_38 : decode cX0_goBack 38 = .ok (.return_, 1) := by decide +kernel
theorem dX1_init_0 : decode cX1_init 0 = .ok (.aload_n 0, 1) := by decide +kernel
theorem dX1_init_1 : decode cX1_init 1 = .ok (.invokespecial 3, 3) := by decide +kernel
theorem dX1_init_4 : decode cX1_init 4 = .ok (.aload_n 0, 1) := by decide +kernel
theorem dX1_init_5 : decode cX1_init 5 = .ok (.bipush 16, 2) := by decide +kernel
theorem dX1_init_7 : decode cX1_init 7 = .ok (.newarray .int, 2) := by decide +kernel
theorem dX1_init_9 : decode cX1_init 9 = .ok (.putfield 9, 3) := by decide +kernel
theorem dX1_init_12 : decode cX1_init 12 = .ok (.aload_n 0, 1) := by decide +kernel
theorem dX1_init_13 : decode cX1_init 13 = .ok (.iconst 0, 1) := by decide +kernel
theorem dX1_init_14 : decode cX1_init 14 = .ok (.putfield 15, 3) := by decide +kernel
theorem dX1_init_17 : decode cX1_init 17 = .ok (.aload_n 0, 1) := by decide +kernel
theorem dX1_init_18 : decode cX1_init 18 = .ok (.iconst 0, 1) := by decide +kernel
theorem dX1_init_19 : decode cX1_init 19 = .ok (.putfield 19, 3) := by decide +kernel
theorem dX1_init_22 : decode cX1_init 22 = .ok (.aload_n 0, 1) := by decide +kernel
theorem dX1_init_23 : decode cX1_init 23 = .ok (.iconst 0, 1) := by decide +kernel
theorem dX1_init_24 : decode cX1_init 24 = .ok (.putfield 22, 3) := by decide +kernel
theorem dX1_init_27 : decode cX1_init 27 = .ok (.aload_n 0, 1) := by decide +kernel
theorem dX1_init_28 : decode cX1_init 28 = .ok (.iconst 0, 1) := by decide +kernel
theorem dX1_init_29 : decode cX1_init 29 = .ok (.putfield 25, 3) := by decide +kernel
theorem dX1_init_32 : decode cX1_init 32 = .ok (.aload_n 0, 1) := by decide +kernel
theorem dX1_init_33 : decode cX1_init 33 = .ok (.iconst 0, 1) := by decide +kernel
theorem dX1_init_34 : decode cX1_init 34 = .ok (.putfield 28, 3) := by decide +kernel
theorem dX1_init_37 : decode cX1_init 37 = .ok (.return_, 1) := by decide +kernel
theorem dX1_begin_0 : decode cX1_begin 0 = .ok (.aload_n 0, 1) := by decide +kernel
theorem dX1_begin_1 : decode cX1_begin 1 = .ok (.iconst 0, 1) := by decide +kernel
theorem dX1_begin_2 : decode cX1_begin 2 = .ok (.putfield 15, 3) := by decide +kernel
theorem dX1_begin_5 : decode cX1_begin 5 = .ok (.aload_n 0, 1) := by decide +kernel
theorem dX1_begin_6 : decode cX1_begin 6 = .ok (.iload_n 2, 1) := by decide +kernel
theorem dX1_begin_7 : decode cX1_begin 7 = .ok (.putfield 19, 3) := by decide +kernel
theorem dX1_begin_10 : decode cX1_begin 10 = .ok (.aload_n 0, 1) := by decide +kernel
theorem dX1_begin_11 : decode cX1_begin 11 = .ok (.iload_n 3, 1) := by decide +kernel
theorem dX1_begin_12 : decode cX1_begin 12 = .ok (.putfield 22, 3) := by decide +kernel
theorem dX1_begin_15 : decode cX1_begin 15 = .ok (.aload_n 0, 1) := by decide +kernel
theorem dX1_begin_16 : decode cX1_begin 16 = .ok (.aload_n 1, 1) := by decide +kernel
theorem dX1_begin_17 : decode cX1_begin 17 = .ok (.getfield 31, 3) := by decide +kernel
theorem dX1_begin_20 : decode cX1_begin 20 = .ok (.iload_n 2, 1) := by decide +kernel
theorem dX1_begin_21 : decode cX1_begin 21 = .ok (.iaload, 1) := by decide +kernel
theorem dX1_begin_22 : decode cX1_begin 22 = .ok (.putfield 25, 3) := by decide +kernel
theorem dX1_begin_25 : decode cX1_begin 25 = .ok (.aload_n 0, 1) := by decide +kernel
theorem dX1_begin_26 : decode cX1_begin 26 = .ok (.aload_n 1, 1) := by decide +kernel
theorem dX1_begin_27 : decode cX1_begin 27 = .ok (.getfield 36, 3) := by decide +kernel
theorem dX1_begin_30 : decode cX1_begin 30 = .ok (.iconst 0, 1) := by decide +kernel
theorem dX1_begin_31 : decode cX1_begin 31 = .ok (.aaload, 1) := by decide +kernel
theorem dX1_begin_32 : decode cX1_begin 32 = .ok (.iload_n 2, 1) := by decide +kernel
theorem dX1_begin_33 : decode cX1_begin 33 = .ok (.iaload, 1) := by decide +kernel
theorem dX1_begin_34 : decode cX1_begin 34 = .ok (.putfield 28, 3) := by decide +kernel
theorem dX1_begin_37 : decode cX1_begin 37 = .ok (.return_, 1) := by decide +kernel
theorem dX1_size_0 : decode cX1_size 0 = .ok (.aload_n 0, 1) := by decide +kernel
theorem dX1_size_1 : decode cX1_size 1 = .ok (.getfield 25, 3) := by decide +kernel
theorem dX1_size_4 : decode cX1_size 4 = .ok (.tableswitch 49 2 5 #[32, 49, 44, 44], 32) := by decide +kernel
theorem dX1_size_36 : decode cX1_size 36 = .ok (.aload_n 0, 1) := by decide +kernel
theorem dX1_size_37 : decode cX1_size 37 = .ok (.bipush 12, 2) := by decide +kernel
theorem dX1_size_39 : decode cX1_size 39 = .ok (.invokevirtual 40, 3) := by decide +kernel
theorem dX1_size_42 : decode cX1_size 42 = .ok (.aload_n 0, 1) := by decide +kernel
theorem dX1_size_43 : decode cX1_size 43 = .ok (.invokevirtual 44, 3) := by decide +kernel
theorem dX1_size_46 : decode cX1_size 46 = .ok (.ineg, 1) := by decide +kernel
theorem dX1_size_47 : decode cX1_size 47 = .ok (.ireturn, 1) := by decide +kernel
theorem dX1_size_48 : decode cX1_size 48 = .ok (.aload_n 0, 1) := by decide +kernel
theorem dX1_size_49 : decode cX1_size 49 = .ok (.invokevirtual 48, 3) := by decide +kernel
theorem dX1_size_52 : decode cX1_size 52 = .ok (.ireturn, 1) := by decide +kernel
theorem dX1_size_53 : decode cX1_size 53 = .ok (.aload_n 0, 1) := by decide +kernel
theorem dX1_size_54 : decode cX1_size 54 = .ok (.invokevirtual 44, 3) := by decide +kernel
theorem dX1_size_57 : decode cX1_size 57 = .ok (.ireturn, 1) := by decide +kernel
theorem dX1_mark_0 : decode cX1_mark 0 = .ok (.aload_n 0, 1) := by decide +kernel
theorem dX1_mark_1 : decode cX1_mark 1 = .ok (.getfield 25, 3) := by decide +kernel
theorem dX1_mark_4 : decode cX1_mark 4 = .ok (.iconst 4, 1) := by decide +kernel
theorem dX1_mark_5 : decode cX1_mark 5 = .ok (.if_icmp .eq 11, 3) := by decide +kernel
theorem dX1_mark_8 : decode cX1_mark 8 = .ok (.aload_n 0, 1) := by decide +kernel
theorem dX1_mark_9 : decode cX1_mark 9 = .ok (.getfield 25, 3) := by decide +kernel
theorem dX1_mark_12 : decode cX1_mark 12 = .ok (.iconst 5, 1) := by decide +kernel
theorem dX1_mark_13 : decode cX1_mark 13 = .ok (.if_icmp .ne 10, 3) := by decide +kernel
theorem dX1_mark_16 : decode cX1_mark 16 = .ok (.aload_n 0, 1) := by decide +kernel
theorem dX1_mark_17 : decode cX1_mark 17 = .ok (.invokevirtual 51, 3) := by decide +kernel
theorem dX1_mark_20 : decode cX1_mark 20 = .ok (.goto 7, 3) := by decide +kernel
theorem dX1_mark_23 : decode cX1_mark 23 = .ok (.aload_n 0, 1) := by decide +kernel
theorem dX1_mark_24 : decode cX1_mark 24 = .ok (.invokevirtual 54, 3) := by decide +kernel
theorem dX1_mark_27 : decode cX1_mark 27 = .ok (.ireturn, 1) := by decide +kernel
theorem dX1_sizeOfAnyCopy_0 : decode cX1_sizeOfAnyCopy 0 = .ok (.aload_n 0, 1) := by decide +kernel
theorem dX1_sizeOfAnyCopy_1 : decode cX1_sizeOfAnyCopy 1 = .ok (.getfield 25, 3) := by decide +kernel
theorem dX1_sizeOfAnyCopy_4 : decode cX1_sizeOfAnyCopy 4 = .ok (.iconst 5, 1) := by decide +kernel
theorem dX1_sizeOfAnyCopy_5 : decode cX1_sizeOfAnyCopy 5 = .ok (.if_icmp .eq 8, 3) := by decide +kernel
theorem dX1_sizeOfAnyCopy_8 : decode cX1_sizeOfAnyCopy 8 = .ok (.aload_n 0, 1) := by decide +kernel
theorem dX1_sizeOfAnyCopy_9 : decode cX1_sizeOfAnyCopy 9 = .ok (.invokevirtual 57, 3) := by decide +kernel
theorem dX1_sizeOfAnyCopy_12 : decode cX1_sizeOfAnyCopy 12 = .ok (.ireturn, 1) := by decide +kernel
theorem dX1_sizeOfAnyCopy_13 : decode cX1_sizeOfAnyCopy 13 = .ok (.aload_n 0, 1) := by decide +kernel
theorem dX1_sizeOfAnyCopy_14 : decode cX1_sizeOfAnyCopy 14 = .ok (.bipush 14, 2) := by decide +kernel
theorem dX1_sizeOfAnyCopy_16 : decode cX1_sizeOfAnyCopy 16 = .ok (.invokevirtual 40, 3) := by decide +kernel
theorem dX1_sizeOfAnyCopy_19 : decode cX1_sizeOfAnyCopy 19 = .ok (.iconst 2, 1) := by decide +kernel
theorem dX1_sizeOfAnyCopy_20 : decode cX1_sizeOfAnyCopy 20 = .ok (.aload_n 0, 1) := by decide +kernel
theorem dX1_sizeOfAnyCopy_21 : decode cX1_sizeOfAnyCopy 21 = .ok (.invokevirtual 57, 3) := by decide +kernel
theorem dX1_sizeOfAnyCopy_24 : decode cX1_sizeOfAnyCopy 24 = .ok (.imul, 1) := by decide +kernel
theorem dX1_sizeOfAnyCopy_25 : decode cX1_sizeOfAnyCopy 25 = .ok (.ireturn, 1) := by decide +kernel
theorem dX1_markOfAnyPlain_0 : decode cX1_markOfAnyPlain 0 = .ok (.aload_n 0, 1) := by decide +kernel
theorem dX1_markOfAnyPlain_1 : decode cX1_markOfAnyPlain 1 = .ok (.getfield 25, 3) := by decide +kernel
theorem dX1_markOfAnyPlain_4 : decode cX1_markOfAnyPlain 4 = .ok (.lookupswitch 56 #[(2, 28), (3, 41)], 28) := by decide +kernel
theorem dX1_markOfAnyPlain_32 : decode cX1_markOfAnyPlain 32 = .ok (.aload_n 0, 1) := by decide +kernel
theorem dX1_markOfAnyPlain_33 : decode cX1_markOfAnyPlain 33 = .ok (.bipush 24, 2) := by decide +kernel
theorem dX1_markOfAnyPlain_35 : decode cX1_markOfAnyPlain 35 = .ok (.invokevirtual 40, 3) := by decide +kernel
theorem dX1_markOfAnyPlain_38 : decode cX1_markOfAnyPlain 38 = .ok (.iconst 2, 1) := by decide +kernel
theorem dX1_markOfAnyPlain_39 : decode cX1_markOfAnyPlain 39 = .ok (.aload_n 0, 1) := by decide +kernel
theorem dX1_markOfAnyPlain_40 : decode cX1_markOfAnyPlain 40 = .ok (.invokevirtual 60, 3) := by decide +kernel
theorem dX1_markOfAnyPlain_43 : decode cX1_markOfAnyPlain 43 = .ok (.imul, 1) := by decide +kernel
theorem dX1_markOfAnyPlain_44 : decode cX1_markOfAnyPlain 44 = .ok (.ireturn, 1) := by decide +kernel
theorem dX1_markOfAnyPlain_45 : decode cX1_markOfAnyPlain 45 = .ok (.aload_n 0, 1) := by decide +kernel
theorem dX1_markOfAnyPlain_46 : decode cX1_markOfAnyPlain 46 = .ok (.bipush 22, 2) := by decide +kernel
theorem dX1_markOfAnyPlain_48 : decode cX1_markOfAnyPlain 48 = .ok (.invokevirtual 40, 3) := by decide +kernel
theorem dX1_markOfAnyPlain_51 : decode cX1_markOfAnyPlain 51 = .ok (.aload_n 0, 1) := by decide +kernel
theorem dX1_markOfAnyPlain_52 : decode cX1_markOfAnyPlain 52 = .ok (.invokevirtual 60, 3) := by decide +kernel
theorem dX1_markOfAnyPlain_55 : decode cX1_markOfAnyPlain 55 = .ok (.sipush 1000, 3) := by decide +kernel
theorem dX1_markOfAnyPlain_58 : decode cX1_markOfAnyPlain 58 = .ok (.isub, 1) := by decide +kernel
theorem dX1_markOfAnyPlain_59 : decode cX1_markOfAnyPlain 59 = .ok (.ireturn, 1) := by decide +kernel
theorem dX1_markOfAnyPlain_60 : decode cX1_markOfAnyPlain 60 = .ok (.aload_n 0, 1) := by decide +kernel
theorem dX1_markOfAnyPlain_61 : decode cX1_markOfAnyPlain 61 = .ok (.invokevirtual 60, 3) := by decide +kernel
theorem dX1_markOfAnyPlain_64 : decode cX1_markOfAnyPlain 64 = .ok (.ireturn, 1) := by decide +kernel
theorem dX1_sizeOfPlain_0 : decode cX1_sizeOfPlain 0 = .ok (.aload_n 0, 1) := by decide +kernel
theorem dX1_sizeOfPlain_1 : decode cX1_sizeOfPlain 1 = .ok (.bipush 11, 2) := by decide +kernel
theorem dX1_sizeOfPlain_3 : decode cX1_sizeOfPlain 3 = .ok (.invokevirtual 40, 3) := by decide +kernel
theorem dX1_sizeOfPlain_6 : decode cX1_sizeOfPlain 6 = .ok (.aload_n 0, 1) := by decide +kernel
theorem dX1_sizeOfPlain_7 : decode cX1_sizeOfPlain 7 = .ok (.invokevirtual 63, 3) := by decide +kernel
theorem dX1_sizeOfPlain_10 : decode cX1_sizeOfPlain 10 = .ok (.istore_n 1, 1) := by decide +kernel
theorem dX1_sizeOfPlain_11 : decode cX1_sizeOfPlain 11 = .ok (.iload_n 1, 1) := by decide +kernel
theorem dX1_sizeOfPlain_12 : decode cX1_sizeOfPlain 12 = .ok (.aload_n 0, 1) := by decide +kernel
theorem dX1_sizeOfPlain_13 : decode cX1_sizeOfPlain 13 = .ok (.invokevirtual 54, 3) := by decide +kernel
theorem dX1_sizeOfPlain_16 : decode cX1_sizeOfPlain 16 = .ok (.iadd, 1) := by decide +kernel
theorem dX1_sizeOfPlain_17 : decode cX1_sizeOfPlain 17 = .ok (.ireturn, 1) := by decide +kernel
theorem dX1_sizeOfCopy_0 : decode cX1_sizeOfCopy 0 = .ok (.aload_n 0, 1) := by decide +kernel
theorem dX1_sizeOfCopy_1 : decode cX1_sizeOfCopy 1 = .ok (.bipush 13, 2) := by decide +kernel
theorem dX1_sizeOfCopy_3 : decode cX1_sizeOfCopy 3 = .ok (.invokevirtual 40, 3) := by decide +kernel
theorem dX1_sizeOfCopy_6 : decode cX1_sizeOfCopy 6 = .ok (.aload_n 0, 1) := by decide +kernel
theorem dX1_sizeOfCopy_7 : decode cX1_sizeOfCopy 7 = .ok (.invokevirtual 63, 3) := by decide +kernel
theorem dX1_sizeOfCopy_10 : decode cX1_sizeOfCopy 10 = .ok (.bipush 100, 2) := by decide +kernel
theorem dX1_sizeOfCopy_12 : decode cX1_sizeOfCopy 12 = .ok (.isub, 1) := by decide +kernel
theorem dX1_sizeOfCopy_13 : decode cX1_sizeOfCopy 13 = .ok (.ireturn, 1) := by decide +kernel
theorem dX1_sizeLent_0 : decode cX1_sizeLent 0 = .ok (.aload_n 0, 1) := by decide +kernel
theorem dX1_sizeLent_1 : decode cX1_sizeLent 1 = .ok (.bipush 10, 2) := by decide +kernel
theorem dX1_sizeLent_3 : decode cX1_sizeLent 3 = .ok (.invokevirtual 40, 3) := by decide +kernel
theorem dX1_sizeLent_6 : decode cX1_sizeLent 6 = .ok (.aload_n 0, 1) := by decide +kernel
theorem dX1_sizeLent_7 : decode cX1_sizeLent 7 = .ok (.getfield 28, 3) := by decide +kernel
theorem dX1_sizeLent_10 : decode cX1_sizeLent 10 = .ok (.ireturn, 1) := by decide +kernel
theorem dX1_markOfPlain_0 : decode cX1_markOfPlain 0 = .ok (.aload_n 0, 1) := by decide +kernel
theorem dX1_markOfPlain_1 : decode cX1_markOfPlain 1 = .ok (.bipush 21, 2) := by decide +kernel
theorem dX1_markOfPlain_3 : decode cX1_markOfPlain 3 = .ok (.invokevirtual 40, 3) := by decide +kernel
theorem dX1_markOfPlain_6 : decode cX1_markOfPlain 6 = .ok (.aload_n 0, 1) := by decide +kernel
theorem dX1_markOfPlain_7 : decode cX1_markOfPlain 7 = .ok (.invokevirtual 66, 3) := by decide +kernel
theorem dX1_markOfPlain_10 : decode cX1_markOfPlain 10 = .ok (.aload_n 0, 1) := by decide +kernel
theorem dX1_markOfPlain_11 : decode cX1_markOfPlain 11 = .ok (.getfield 22, 3) := by decide +kernel
theorem dX1_markOfPlain_14 : decode cX1_markOfPlain 14 = .ok (.iadd, 1) := by decide +kernel
theorem dX1_markOfPlain_15 : decode cX1_markOfPlain 15 = .ok (.ireturn, 1) := by decide +kernel
theorem dX1_markOfCopy_0 : decode cX1_markOfCopy 0 = .ok (.aload_n 0, 1) := by decide +kernel
theorem dX1_markOfCopy_1 : decode cX1_markOfCopy 1 = .ok (.bipush 23, 2) := by decide +kernel
theorem dX1_markOfCopy_3 : decode cX1_markOfCopy 3 = .ok (.invokevirtual 40, 3) := by decide +kernel
theorem dX1_markOfCopy_6 : decode cX1_markOfCopy 6 = .ok (.aload_n 0, 1) := by decide +kernel
theorem dX1_markOfCopy_7 : decode cX1_markOfCopy 7 = .ok (.invokevirtual 66, 3) := by decide +kernel
theorem dX1_markOfCopy_10 : decode cX1_markOfCopy 10 = .ok (.istore_n 1, 1) := by decide +kernel
theorem dX1_markOfCopy_11 : decode cX1_markOfCopy 11 = .ok (.iload_n 1, 1) := by decide +kernel
theorem dX1_markOfCopy_12 : decode cX1_markOfCopy 12 = .ok (.aload_n 0, 1) := by decide +kernel
theorem dX1_markOfCopy_13 : decode cX1_markOfCopy 13 = .ok (.invokevirtual 48, 3) := by decide +kernel
theorem dX1_markOfCopy_16 : decode cX1_markOfCopy 16 = .ok (.isub, 1) := by decide +kernel
theorem dX1_markOfCopy_17 : decode cX1_markOfCopy 17 = .ok (.ireturn, 1) := by decide +kernel
theorem dX1_markLent_0 : decode cX1_markLent 0 = .ok (.aload_n 0, 1) := by decide +kernel
theorem dX1_markLent_1 : decode cX1_markLent 1 = .ok (.bipush 20, 2) := by decide +kernel
theorem dX1_markLent_3 : decode cX1_markLent 3 = .ok (.invokevirtual 40, 3) := by decide +kernel
theorem dX1_markLent_6 : decode cX1_markLent 6 = .ok (.aload_n 0, 1) := by decide +kernel
theorem dX1_markLent_7 : decode cX1_markLent 7 = .ok (.getfield 19, 3) := by decide +kernel
theorem dX1_markLent_10 : decode cX1_markLent 10 = .ok (.ireturn, 1) := by decide +kernel
theorem dX1_leave_0 : decode cX1_leave 0 = .ok (.aload_n 0, 1) := by decide +kernel
theorem dX1_leave_1 : decode cX1_leave 1 = .ok (.getfield 15, 3) := by decide +kernel
theorem dX1_leave_4 : decode cX1_leave 4 = .ok (.bipush 16, 2) := by decide +kernel
theorem dX1_leave_6 : decode cX1_leave 6 = .ok (.if_icmp .ge 23, 3) := by decide +kernel
theorem dX1_leave_9 : decode cX1_leave 9 = .ok (.aload_n 0, 1) := by decide +kernel
theorem dX1_leave_10 : decode cX1_leave 10 = .ok (.getfield 9, 3) := by decide +kernel
theorem dX1_leave_13 : decode cX1_leave 13 = .ok (.aload_n 0, 1) := by decide +kernel
theorem dX1_leave_14 : decode cX1_leave 14 = .ok (.getfield 15, 3) := by decide +kernel
theorem dX1_leave_17 : decode cX1_leave 17 = .ok (.iload_n 1, 1) := by decide +kernel
theorem dX1_leave_18 : decode cX1_leave 18 = .ok (.iastore, 1) := by decide +kernel
theorem dX1_leave_19 : decode cX1_leave 19 = .ok (.aload_n 0, 1) := by decide +kernel
theorem dX1_leave_20 : decode cX1_leave 20 = .ok (.dup, 1) := by decide +kernel
theorem dX1_leave_21 : decode cX1_leave 21 = .ok (.getfield 15, 3) := by decide +kernel
theorem dX1_leave_24 : decode cX1_leave 24 = .ok (.iconst 1, 1) := by decide +kernel
theorem dX1_leave_25 : decode cX1_leave 25 = .ok (.iadd, 1) := by decide +kernel
theorem dX1_leave_26 : decode cX1_leave 26 = .ok (.putfield 15, 3) := by decide +kernel
theorem dX1_leave_29 : decode cX1_leave 29 = .ok (.return_, 1) := by decide +kernel
theorem dX2_init_0 : decode cX2_init 0 = .ok (.aload_n 0, 1) := by decide +kernel
theorem dX2_init_1 : decode cX2_init 1 = .ok (.invokespecial 3, 3) := by decide +kernel
theorem dX2_init_4 : decode cX2_init 4 = .ok (.aload_n 0, 1) := by decide +kernel
theorem dX2_init_5 : decode cX2_init 5 = .ok (.iconst 0, 1) := by decide +kernel
theorem dX2_init_6 : decode cX2_init 6 = .ok (.putfield 9, 3) := by decide +kernel
theorem dX2_init_9 : decode cX2_init 9 = .ok (.aload_n 0, 1) := by decide +kernel
theorem dX2_init_10 : decode cX2_init 10 = .ok (.iconst 0, 1) := by decide +kernel
theorem dX2_init_11 : decode cX2_init 11 = .ok (.putfield 15, 3) := by decide +kernel
theorem dX2_init_14 : decode cX2_init 14 = .ok (.aload_n 0, 1) := by decide +kernel
theorem dX2_init_15 : decode cX2_init 15 = .ok (.iconst 0, 1) := by decide +kernel
theorem dX2_init_16 : decode cX2_init 16 = .ok (.putfield 18, 3) := by decide +kernel
theorem dX2_init_19 : decode cX2_init 19 = .ok (.aload_n 0, 1) := by decide +kernel
theorem dX2_init_20 : decode cX2_init 20 = .ok (.bipush 10, 2) := by decide +kernel
theorem dX2_init_22 : decode cX2_init 22 = .ok (.newarray .int, 2) := by decide +kernel
theorem dX2_init_24 : decode cX2_init 24 = .ok (.putfield 21, 3) := by decide +kernel
theorem dX2_init_27 : decode cX2_init 27 = .ok (.aload_n 0, 1) := by decide +kernel
theorem dX2_init_28 : decode cX2_init 28 = .ok (.iconst 3, 1) := by decide +kernel
theorem dX2_init_29 : decode cX2_init 29 = .ok (.bipush 10, 2) := by decide +kernel
theorem dX2_init_31 : decode cX2_init 31 = .ok (.multianewarray 25 2, 4) := by decide +kernel
theorem dX2_init_35 : decode cX2_init 35 = .ok (.putfield 27, 3) := by decide +kernel
theorem dX2_init_38 : decode cX2_init 38 = .ok (.return_, 1) := by decide +kernel
theorem dX2_becomeLike_0 : decode cX2_becomeLike 0 = .ok (.aload_n 0, 1) := by decide +kernel
theorem dX2_becomeLike_1 : decode cX2_becomeLike 1 = .ok (.aload_n 1, 1) := by decide +kernel
theorem dX2_becomeLike_2 : decode cX2_becomeLike 2 = .ok (.getfield 9, 3) := by decide +kernel
theorem dX2_becomeLike_5 : decode cX2_becomeLike 5 = .ok (.putfield 9, 3) := by decide +kernel
theorem dX2_becomeLike_8 : decode cX2_becomeLike 8 = .ok (.aload_n 0, 1) := by decide +kernel
theorem dX2_becomeLike_9 : decode cX2_becomeLike 9 = .ok (.aload_n 1, 1) := by decide +kernel
theorem dX2_becomeLike_10 : decode cX2_becomeLike 10 = .ok (.getfield 15, 3) := by decide +kernel
theorem dX2_becomeLike_13 : decode cX2_becomeLike 13 = .ok (.putfield 15, 3) := by decide +kernel
theorem dX2_becomeLike_16 : decode cX2_becomeLike 16 = .ok (.aload_n 0, 1) := by decide +kernel
theorem dX2_becomeLike_17 : decode cX2_becomeLike 17 = .ok (.aload_n 1, 1) := by decide +kernel
theorem dX2_becomeLike_18 : decode cX2_becomeLike 18 = .ok (.getfield 18, 3) := by decide +kernel
theorem dX2_becomeLike_21 : decode cX2_becomeLike 21 = .ok (.putfield 18, 3) := by decide +kernel
theorem dX2_becomeLike_24 : decode cX2_becomeLike 24 = .ok (.aload_n 1, 1) := by decide +kernel
theorem dX2_becomeLike_25 : decode cX2_becomeLike 25 = .ok (.getfield 21, 3) := by decide +kernel
theorem dX2_becomeLike_28 : decode cX2_becomeLike 28 = .ok (.iconst 0, 1) := by decide +kernel
theorem dX2_becomeLike_29 : decode cX2_becomeLike 29 = .ok (.aload_n 0, 1) := by decide +kernel
theorem dX2_becomeLike_30 : decode cX2_becomeLike 30 = .ok (.getfield 21, 3) := by decide +kernel
theorem dX2_becomeLike_33 : decode cX2_becomeLike 33 = .ok (.iconst 0, 1) := by decide +kernel
theorem dX2_becomeLike_34 : decode cX2_becomeLike 34 = .ok (.bipush 10, 2) := by decide +kernel
theorem dX2_becomeLike_36 : decode cX2_becomeLike 36 = .ok (.invokestatic 30, 3) := by decide +kernel
theorem dX2_becomeLike_39 : decode cX2_becomeLike 39 = .ok (.iconst 0, 1) := by decide +kernel
theorem dX2_becomeLike_40 : decode cX2_becomeLike 40 = .ok (.istore_n 2, 1) := by decide +kernel
theorem dX2_becomeLike_41 : decode cX2_becomeLike 41 = .ok (.iload_n 2, 1) := by decide +kernel
theorem dX2_becomeLike_42 : decode cX2_becomeLike 42 = .ok (.iconst 2, 1) := by decide +kernel
theorem dX2_becomeLike_43 : decode cX2_becomeLike 43 = .ok (.if_icmp .gt 28, 3) := by decide +kernel
theorem dX2_becomeLike_46 : decode cX2_becomeLike 46 = .ok (.aload_n 1, 1) := by decide +kernel
theorem dX2_becomeLike_47 : decode cX2_becomeLike 47 = .ok (.getfield 27, 3) := by decide +kernel
theorem dX2_becomeLike_50 : decode cX2_becomeLike 50 = .ok (.iload_n 2, 1) := by decide +kernel
theorem dX2_becomeLike_51 : decode cX2_becomeLike 51 = .ok (.aaload, 1) := by decide +kernel
theorem dX2_becomeLike_52 : decode cX2_becomeLike 52 = .ok (.iconst 0, 1) := by decide +kernel
theorem dX2_becomeLike_53 : decode cX2_becomeLike 53 = .ok (.aload_n 0, 1) := by decide +kernel
theorem dX2_becomeLike_54 : decode cX2_becomeLike 54 = .ok (.getfield 27, 3) := by decide +kernel
theorem dX2_becomeLike_57 : decode cX2_becomeLike 57 = .ok (.iload_n 2, 1) := by decide +kernel
theorem dX2_becomeLike_58 : decode cX2_becomeLike 58 = .ok (.aaload, 1) := by decide +kernel
theorem dX2_becomeLike_59 : decode cX2_becomeLike 59 = .ok (.iconst 0, 1) := by decide +kernel
theorem dX2_becomeLike_60 : decode cX2_becomeLike 60 = .ok (.bipush 10, 2) := by decide +kernel
theorem dX2_becomeLike_62 : decode cX2_becomeLike 62 = .ok (.invokestatic 30, 3) := by decide +kernel
theorem dX2_becomeLike_65 : decode cX2_becomeLike 65 = .ok (.iinc 2 1, 3) := by decide +kernel
theorem dX2_becomeLike_68 : decode cX2_becomeLike 68 = .ok (.goto (-27), 3) := by decide +kernel
theorem dX2_becomeLike_71 : decode cX2_becomeLike 71 = .ok (.return_, 1) := by decide +kernel
theorem dX2_insert_0 : decode cX2_insert 0 = .ok (.iload_n 1, 1) := by decide +kernel
theorem dX2_insert_1 : decode cX2_insert 1 = .ok (.ifCond .lt 20, 3) := by decide +kernel
theorem dX2_insert_4 : decode cX2_insert 4 = .ok (.iload_n 1, 1) := by decide +kernel
theorem dX2_insert_5 : decode cX2_insert 5 = .ok (.aload_n 0, 1) := by decide +kernel
theorem dX2_insert_6 : decode cX2_insert 6 = .ok (.getfield 9, 3) := by decide +kernel
theorem dX2_insert_9 : decode cX2_insert 9 = .ok (.if_icmp .gt 12, 3) := by decide +kernel
theorem dX2_insert_12 : decode cX2_insert 12 = .ok (.aload_n 0, 1) := by decide +kernel
theorem dX2_insert_13 : decode cX2_insert 13 = .ok (.getfield 9, 3) := by decide +kernel
theorem dX2_insert_16 : decode cX2_insert 16 = .ok (.bipush 10, 2) := by decide +kernel
theorem dX2_insert_18 : decode cX2_insert 18 = .ok (.if_icmp .lt 4, 3) := by decide +kernel
theorem dX2_insert_21 : decode cX2_insert 21 = .ok (.return_, 1) := by decide +kernel
theorem dX2_insert_22 : decode cX2_insert 22 = .ok (.aload_n 0, 1) := by decide +kernel
theorem dX2_insert_23 : decode cX2_insert 23 = .ok (.getfield 9, 3) := by decide +kernel
theorem dX2_insert_26 : decode cX2_insert 26 = .ok (.istore 6, 2) := by decide +kernel
theorem dX2_insert_28 : decode cX2_insert 28 = .ok (.iload 6, 2) := by decide +kernel
theorem dX2_insert_30 : decode cX2_insert 30 = .ok (.iload_n 1, 1) := by decide +kernel
theorem dX2_insert_31 : decode cX2_insert 31 = .ok (.if_icmp .le 19, 3) := by decide +kernel
theorem dX2_insert_34 : decode cX2_insert 34 = .ok (.aload_n 0, 1) := by decide +kernel
theorem dX2_insert_35 : decode cX2_insert 35 = .ok (.iload 6, 2) := by decide +kernel
theorem dX2_insert_37 : decode cX2_insert 37 = .ok (.iload 6, 2) := by decide +kernel
theorem dX2_insert_39 : decode cX2_insert 39 = .ok (.iconst 1, 1) := by decide +kernel
theorem dX2_insert_40 : decode cX2_insert 40 = .ok (.isub, 1) := by decide +kernel
theorem dX2_insert_41 : decode cX2_insert 41 = .ok (.invokevirtual 36, 3) := by decide +kernel
theorem dX2_insert_44 : decode cX2_insert 44 = .ok (.iinc 6 (-1), 3) := by decide +kernel
theorem dX2_insert_47 : decode cX2_insert 47 = .ok (.goto (-19), 3) := by decide +kernel
theorem dX2_insert_50 : decode cX2_insert 50 = .ok (.aload_n 0, 1) := by decide +kernel
theorem dX2_insert_51 : decode cX2_insert 51 = .ok (.dup, 1) := by decide +kernel
theorem dX2_insert_52 : decode cX2_insert 52 = .ok (.getfield 9, 3) := by decide +kernel
theorem dX2_insert_55 : decode cX2_insert 55 = .ok (.iconst 1, 1) := by decide +kernel
theorem dX2_insert_56 : decode cX2_insert 56 = .ok (.iadd, 1) := by decide +kernel
theorem dX2_insert_57 : decode cX2_insert 57 = .ok (.putfield 9, 3) := by decide +kernel
theorem dX2_insert_60 : decode cX2_insert 60 = .ok (.aload_n 0, 1) := by decide +kernel
theorem dX2_insert_61 : decode cX2_insert 61 = .ok (.getfield 21, 3) := by decide +kernel
theorem dX2_insert_64 : decode cX2_insert 64 = .ok (.iload_n 1, 1) := by decide +kernel
theorem dX2_insert_65 : decode cX2_insert 65 = .ok (.iload_n 2, 1) := by decide +kernel
theorem dX2_insert_66 : decode cX2_insert 66 = .ok (.iastore, 1) := by decide +kernel
theorem dX2_insert_67 : decode cX2_insert 67 = .ok (.aload_n 0, 1) := by decide +kernel
theorem dX2_insert_68 : decode cX2_insert 68 = .ok (.getfield 27, 3) := by decide +kernel
theorem dX2_insert_71 : decode cX2_insert 71 = .ok (.iconst 0, 1) := by decide +kernel
theorem dX2_insert_72 : decode cX2_insert 72 = .ok (.aaload, 1) := by decide +kernel
theorem dX2_insert_73 : decode cX2_insert 73 = .ok (.iload_n 1, 1) := by decide +kernel
theorem dX2_insert_74 : decode cX2_insert 74 = .ok (.iload_n 3, 1) := by decide +kernel
theorem dX2_insert_75 : decode cX2_insert 75 = .ok (.iastore, 1) := by decide +kernel
theorem dX2_insert_76 : decode cX2_insert 76 = .ok (.aload_n 0, 1) := by decide +kernel
theorem dX2_insert_77 : decode cX2_insert 77 = .ok (.getfield 27, 3) := by decide +kernel
theorem dX2_insert_80 : decode cX2_insert 80 = .ok (.iconst 1, 1) := by decide +kernel
theorem dX2_insert_81 : decode cX2_insert 81 = .ok (.aaload, 1) := by decide +kernel
theorem dX2_insert_82 : decode cX2_insert 82 = .ok (.iload_n 1, 1) := by decide +kernel
theorem dX2_insert_83 : decode cX2_insert 83 = .ok (.iload 4, 2) := by decide +kernel
theorem dX2_insert_85 : decode cX2_insert 85 = .ok (.iastore, 1) := by decide +kernel
theorem dX2_insert_86 : decode cX2_insert 86 = .ok (.aload_n 0, 1) := by decide +kernel
theorem dX2_insert_87 : decode cX2_insert 87 = .ok (.getfield 27, 3) := by decide +kernel
theorem dX2_insert_90 : decode cX2_insert 90 = .ok (.iconst 2, 1) := by decide +kernel
theorem dX2_insert_91 : decode cX2_insert 91 = .ok (.aaload, 1) := by decide +kernel
theorem dX2_insert_92 : decode cX2_insert 92 = .ok (.iload_n 1, 1) := by decide +kernel
theorem dX2_insert_93 : decode cX2_insert 93 = .ok (.iload 5, 2) := by decide +kernel
theorem dX2_insert_95 : decode cX2_insert 95 = .ok (.iastore, 1) := by decide +kernel
theorem dX2_insert_96 : decode cX2_insert 96 = .ok (.return_, 1) := by decide +kernel
theorem dX2_cut_0 : decode cX2_cut 0 = .ok (.iload_n 1, 1) := by decide +kernel
theorem dX2_cut_1 : decode cX2_cut 1 = .ok (.istore_n 2, 1) := by decide +kernel
theorem dX2_cut_2 : decode cX2_cut 2 = .ok (.iload_n 2, 1) := by decide +kernel
theorem dX2_cut_3 : decode cX2_cut 3 = .ok (.aload_n 0, 1) := by decide +kernel
theorem dX2_cut_4 : decode cX2_cut 4 = .ok (.getfield 9, 3) := by decide +kernel
theorem dX2_cut_7 : decode cX2_cut 7 = .ok (.iconst 1, 1) := by decide +kernel
theorem dX2_cut_8 : decode cX2_cut 8 = .ok (.isub, 1) := by decide +kernel
theorem dX2_cut_9 : decode cX2_cut 9 = .ok (.if_icmp .ge 17, 3) := by decide +kernel
theorem dX2_cut_12 : decode cX2_cut 12 = .ok (.aload_n 0, 1) := by decide +kernel
theorem dX2_cut_13 : decode cX2_cut 13 = .ok (.iload_n 2, 1) := by decide +kernel
theorem dX2_cut_14 : decode cX2_cut 14 = .ok (.iload_n 2, 1) := by decide +kernel
theorem dX2_cut_15 : decode cX2_cut 15 = .ok (.iconst 1, 1) := by decide +kernel
theorem dX2_cut_16 : decode cX2_cut 16 = .ok (.iadd, 1) := by decide +kernel
theorem dX2_cut_17 : decode cX2_cut 17 = .ok (.invokevirtual 36, 3) := by decide +kernel
theorem dX2_cut_20 : decode cX2_cut 20 = .ok (.iinc 2 1, 3) := by decide +kernel
theorem dX2_cut_23 : decode cX2_cut 23 = .ok (.goto (-21), 3) := by decide +kernel
theorem dX2_cut_26 : decode cX2_cut 26 = .ok (.aload_n 0, 1) := by decide +kernel
theorem dX2_cut_27 : decode cX2_cut 27 = .ok (.dup, 1) := by decide +kernel
theorem dX2_cut_28 : decode cX2_cut 28 = .ok (.getfield 9, 3) := by decide +kernel
theorem dX2_cut_31 : decode cX2_cut 31 = .ok (.iconst 1, 1) := by decide +kernel
theorem dX2_cut_32 : decode cX2_cut 32 = .ok (.isub, 1) := by decide +kernel
theorem dX2_cut_33 : decode cX2_cut 33 = .ok (.putfield 9, 3) := by decide +kernel
theorem dX2_cut_36 : decode cX2_cut 36 = .ok (.return_, 1) := by decide +kernel
theorem dX2_carry_0 : decode cX2_carry 0 = .ok (.aload_n 0, 1) := by decide +kernel
theorem dX2_carry_1 : decode cX2_carry 1 = .ok (.getfield 21, 3) := by decide +kernel
theorem dX2_carry_4 : decode cX2_carry 4 = .ok (.iload_n 1, 1) := by decide +kernel
theorem dX2_carry_5 : decode cX2_carry 5 = .ok (.iaload, 1) := by decide +kernel
theorem dX2_carry_6 : decode cX2_carry 6 = .ok (.istore_n 3, 1) := by decide +kernel
theorem dX2_carry_7 : decode cX2_carry 7 = .ok (.aload_n 0, 1) := by decide +kernel
theorem dX2_carry_8 : decode cX2_carry 8 = .ok (.getfield 27, 3) := by decide +kernel
theorem dX2_carry_11 : decode cX2_carry 11 = .ok (.iconst 0, 1) := by decide +kernel
theorem dX2_carry_12 : decode cX2_carry 12 = .ok (.aaload, 1) := by decide +kernel
theorem dX2_carry_13 : decode cX2_carry 13 = .ok (.iload_n 1, 1) := by decide +kernel
theorem dX2_carry_14 : decode cX2_carry 14 = .ok (.iaload, 1) := by decide +kernel
theorem dX2_carry_15 : decode cX2_carry 15 = .ok (.istore 4, 2) := by decide +kernel
theorem dX2_carry_17 : decode cX2_carry 17 = .ok (.aload_n 0, 1) := by decide +kernel
theorem dX2_carry_18 : decode cX2_carry 18 = .ok (.getfield 27, 3) := by decide +kernel
theorem dX2_carry_21 : decode cX2_carry 21 = .ok (.iconst 1, 1) := by decide +kernel
theorem dX2_carry_22 : decode cX2_carry 22 = .ok (.aaload, 1) := by decide +kernel
theorem dX2_carry_23 : decode cX2_carry 23 = .ok (.iload_n 1, 1) := by decide +kernel
theorem dX2_carry_24 : decode cX2_carry 24 = .ok (.iaload, 1) := by decide +kernel
theorem dX2_carry_25 : decode cX2_carry 25 = .ok (.istore 5, 2) := by decide +kernel
theorem dX2_carry_27 : decode cX2_carry 27 = .ok (.aload_n 0, 1) := by decide +kernel
theorem dX2_carry_28 : decode cX2_carry 28 = .ok (.getfield 27, 3) := by decide +kernel
theorem dX2_carry_31 : decode cX2_carry 31 = .ok (.iconst 2, 1) := by decide +kernel
theorem dX2_carry_32 : decode cX2_carry 32 = .ok (.aaload, 1) := by decide +kernel
theorem dX2_carry_33 : decode cX2_carry 33 = .ok (.iload_n 1, 1) := by decide +kernel
theorem dX2_carry_34 : decode cX2_carry 34 = .ok (.iaload, 1) := by decide +kernel
theorem dX2_carry_35 : decode cX2_carry 35 = .ok (.istore 6, 2) := by decide +kernel
theorem dX2_carry_37 : decode cX2_carry 37 = .ok (.aload_n 0, 1) := by decide +kernel
theorem dX2_carry_38 : decode cX2_carry 38 = .ok (.iload_n 1, 1) := by decide +kernel
theorem dX2_carry_39 : decode cX2_carry 39 = .ok (.invokevirtual 40, 3) := by decide +kernel
theorem dX2_carry_42 : decode cX2_carry 42 = .ok (.aload_n 0, 1) := by decide +kernel
theorem dX2_carry_43 : decode cX2_carry 43 = .ok (.iload_n 2, 1) := by decide +kernel
theorem dX2_carry_44 : decode cX2_carry 44 = .ok (.iload_n 3, 1) := by decide +kernel
theorem dX2_carry_45 : decode cX2_carry 45 = .ok (.iload 4, 2) := by decide +kernel
theorem dX2_carry_47 : decode cX2_carry 47 = .ok (.iload 5, 2) := by decide +kernel
theorem dX2_carry_49 : decode cX2_carry 49 = .ok (.iload 6, 2) := by decide +kernel
theorem dX2_carry_51 : decode cX2_carry 51 = .ok (.invokevirtual 44, 3) := by decide +kernel
theorem dX2_carry_54 : decode cX2_carry 54 = .ok (.return_, 1) := by decide +kernel
theorem dX2_together_0 : decode cX2_together 0 = .ok (.iconst 0, 1) := by decide +kernel
theorem dX2_together_1 : decode cX2_together 1 = .ok (.istore_n 2, 1) := by decide +kernel
theorem dX2_together_2 : decode cX2_together 2 = .ok (.iconst 0, 1) := by decide +kernel
theorem dX2_together_3 : decode cX2_together 3 = .ok (.istore_n 3, 1) := by decide +kernel
theorem dX2_together_4 : decode cX2_together 4 = .ok (.iload_n 3, 1) := by decide +kernel
theorem dX2_together_5 : decode cX2_together 5 = .ok (.aload_n 0, 1) := by decide +kernel
theorem dX2_together_6 : decode cX2_together 6 = .ok (.getfield 9, 3) := by decide +kernel
theorem dX2_together_9 : decode cX2_together 9 = .ok (.if_icmp .ge 20, 3) := by decide +kernel
theorem dX2_together_12 : decode cX2_together 12 = .ok (.iload_n 2, 1) := by decide +kernel
theorem dX2_together_13 : decode cX2_together 13 = .ok (.aload_n 0, 1) := by decide +kernel
theorem dX2_together_14 : decode cX2_together 14 = .ok (.getfield 27, 3) := by decide +kernel
theorem dX2_together_17 : decode cX2_together 17 = .ok (.iload_n 1, 1) := by decide +kernel
theorem dX2_together_18 : decode cX2_together 18 = .ok (.aaload, 1) := by decide +kernel
theorem dX2_together_19 : decode cX2_together 19 = .ok (.iload_n 3, 1) := by decide +kernel
theorem dX2_together_20 : decode cX2_together 20 = .ok (.iaload, 1) := by decide +kernel
theorem dX2_together_21 : decode cX2_together 21 = .ok (.iadd, 1) := by decide +kernel
theorem dX2_together_22 : decode cX2_together 22 = .ok (.istore_n 2, 1) := by decide +kernel
theorem dX2_together_23 : decode cX2_together 23 = .ok (.iinc 3 1, 3) := by decide +kernel
theorem dX2_together_26 : decode cX2_together 26 = .ok (.goto (-22), 3) := by decide +kernel
theorem dX2_together_29 : decode cX2_together 29 = .ok (.iload_n 2, 1) := by decide +kernel
theorem dX2_together_30 : decode cX2_together 30 = .ok (.ireturn, 1) := by decide +kernel
theorem dX2_overwrite_0 : decode cX2_overwrite 0 = .ok (.aload_n 0, 1) := by decide +kernel
theorem dX2_overwrite_1 : decode cX2_overwrite 1 = .ok (.getfield 21, 3) := by decide +kernel
theorem dX2_overwrite_4 : decode cX2_overwrite 4 = .ok (.iload_n 1, 1) := by decide +kernel
theorem dX2_overwrite_5 : decode cX2_overwrite 5 = .ok (.aload_n 0, 1) := by decide +kernel
theorem dX2_overwrite_6 : decode cX2_overwrite 6 = .ok (.getfield 21, 3) := by decide +kernel
theorem dX2_overwrite_9 : decode cX2_overwrite 9 = .ok (.iload_n 2, 1) := by decide +kernel
theorem dX2_overwrite_10 : decode cX2_overwrite 10 = .ok (.iaload, 1) := by decide +kernel
theorem dX2_overwrite_11 : decode cX2_overwrite 11 = .ok (.iastore, 1) := by decide +kernel
theorem dX2_overwrite_12 : decode cX2_overwrite 12 = .ok (.iconst 0, 1) := by decide +kernel
theorem dX2_overwrite_13 : decode cX2_overwrite 13 = .ok (.istore_n 3, 1) := by decide +kernel
theorem dX2_overwrite_14 : decode cX2_overwrite 14 = .ok (.iload_n 3, 1) := by decide +kernel
theorem dX2_overwrite_15 : decode cX2_overwrite 15 = .ok (.iconst 2, 1) := by decide +kernel
theorem dX2_overwrite_16 : decode cX2_overwrite 16 = .ok (.if_icmp .gt 25, 3) := by decide +kernel
theorem dX2_overwrite_19 : decode cX2_overwrite 19 = .ok (.aload_n 0, 1) := by decide +kernel
theorem dX2_overwrite_20 : decode cX2_overwrite 20 = .ok (.getfield 27, 3) := by decide +kernel
theorem dX2_overwrite_23 : decode cX2_overwrite 23 = .ok (.iload_n 3, 1) := by decide +kernel
theorem dX2_overwrite_24 : decode cX2_overwrite 24 = .ok (.aaload, 1) := by decide +kernel
theorem dX2_overwrite_25 : decode cX2_overwrite 25 = .ok (.iload_n 1, 1) := by decide +kernel
theorem dX2_overwrite_26 : decode cX2_overwrite 26 = .ok (.aload_n 0, 1) := by decide +kernel
theorem dX2_overwrite_27 : decode cX2_overwrite 27 = .ok (.getfield 27, 3) := by decide +kernel
theorem dX2_overwrite_30 : decode cX2_overwrite 30 = .ok (.iload_n 3, 1) := by decide +kernel
theorem dX2_overwrite_31 : decode cX2_overwrite 31 = .ok (.aaload, 1) := by decide +kernel
theorem dX2_overwrite_32 : decode cX2_overwrite 32 = .ok (.iload_n 2, 1) := by decide +kernel
theorem dX2_overwrite_33 : decode cX2_overwrite 33 = .ok (.iaload, 1) := by decide +kernel
theorem dX2_overwrite_34 : decode cX2_overwrite 34 = .ok (.iastore, 1) := by decide +kernel
theorem dX2_overwrite_35 : decode cX2_overwrite 35 = .ok (.iinc 3 1, 3) := by decide +kernel
theorem dX2_overwrite_38 : decode cX2_overwrite 38 = .ok (.goto (-24), 3) := by decide +kernel
theorem dX2_overwrite_41 : decode cX2_overwrite 41 = .ok (.return_, 1) := by decide +kernel
theorem dX3_init_0 : decode cX3_init 0 = .ok (.aload_n 0, 1) := by decide +kernel
theorem dX3_init_1 : decode cX3_init 1 = .ok (.invokespecial 3, 3) := by decide +kernel
theorem dX3_init_4 : decode cX3_init 4 = .ok (.aload_n 0, 1) := by decide +kernel
theorem dX3_init_5 : decode cX3_init 5 = .ok (.new 9, 3) := by decide +kernel
theorem dX3_init_8 : decode cX3_init 8 = .ok (.dup, 1) := by decide +kernel
theorem dX3_init_9 : decode cX3_init 9 = .ok (.invokespecial 11, 3) := by decide +kernel
theorem dX3_init_12 : decode cX3_init 12 = .ok (.putfield 12, 3) := by decide +kernel
theorem dX3_init_15 : decode cX3_init 15 = .ok (.aload_n 0, 1) := by decide +kernel
theorem dX3_init_16 : decode cX3_init 16 = .ok (.new 18, 3) := by decide +kernel
theorem dX3_init_19 : decode cX3_init 19 = .ok (.dup, 1) := by decide +kernel
theorem dX3_init_20 : decode cX3_init 20 = .ok (.invokespecial 20, 3) := by decide +kernel
theorem dX3_init_23 : decode cX3_init 23 = .ok (.putfield 21, 3) := by decide +kernel
theorem dX3_init_26 : decode cX3_init 26 = .ok (.aload_n 0, 1) := by decide +kernel
theorem dX3_init_27 : decode cX3_init 27 = .ok (.bipush 10, 2) := by decide +kernel
theorem dX3_init_29 : decode cX3_init 29 = .ok (.newarray .int, 2) := by decide +kernel
theorem dX3_init_31 : decode cX3_init 31 = .ok (.putfield 25, 3) := by decide +kernel
theorem dX3_init_34 : decode cX3_init 34 = .ok (.aload_n 0, 1) := by decide +kernel
theorem dX3_init_35 : decode cX3_init 35 = .ok (.iconst 0, 1) := by decide +kernel
theorem dX3_init_36 : decode cX3_init 36 = .ok (.putfield 29, 3) := by decide +kernel
theorem dX3_init_39 : decode cX3_init 39 = .ok (.aload_n 0, 1) := by decide +kernel
theorem dX3_init_40 : decode cX3_init 40 = .ok (.sipush 1024, 3) := by decide +kernel
theorem dX3_init_43 : decode cX3_init 43 = .ok (.newarray .int, 2) := by decide +kernel
theorem dX3_init_45 : decode cX3_init 45 = .ok (.putfield 33, 3) := by decide +kernel
theorem dX3_init_48 : decode cX3_init 48 = .ok (.aload_n 0, 1) := by decide +kernel
theorem dX3_init_49 : decode cX3_init 49 = .ok (.bipush 11, 2) := by decide +kernel
theorem dX3_init_51 : decode cX3_init 51 = .ok (.newarray .int, 2) := by decide +kernel
theorem dX3_init_53 : decode cX3_init 53 = .ok (.putfield 36, 3) := by decide +kernel
theorem dX3_init_56 : decode cX3_init 56 = .ok (.return_, 1) := by decide +kernel
theorem dX3_handsWithout_0 : decode cX3_handsWithout 0 = .ok (.aload_n 0, 1) := by decide +kernel
theorem dX3_handsWithout_1 : decode cX3_handsWithout 1 = .ok (.getfield 12, 3) := by decide +kernel
theorem dX3_handsWithout_4 : decode cX3_handsWithout 4 = .ok (.aload_n 1, 1) := by decide +kernel
theorem dX3_handsWithout_5 : decode cX3_handsWithout 5 = .ok (.invokevirtual 39, 3) := by decide +kernel
theorem dX3_handsWithout_8 : decode cX3_handsWithout 8 = .ok (.aload_n 0, 1) := by decide +kernel
theorem dX3_handsWithout_9 : decode cX3_handsWithout 9 = .ok (.getfield 12, 3) := by decide +kernel
theorem dX3_handsWithout_12 : decode cX3_handsWithout 12 = .ok (.iload_n 2, 1) := by decide +kernel
theorem dX3_handsWithout_13 : decode cX3_handsWithout 13 = .ok (.invokevirtual 43, 3) := by decide +kernel
theorem dX3_handsWithout_16 : decode cX3_handsWithout 16 = .ok (.aload_n 0, 1) := by decide +kernel
theorem dX3_handsWithout_17 : decode cX3_handsWithout 17 = .ok (.getfield 21, 3) := by decide +kernel
theorem dX3_handsWithout_20 : decode cX3_handsWithout 20 = .ok (.getfield 47, 3) := by decide +kernel
theorem dX3_handsWithout_23 : decode cX3_handsWithout 23 = .ok (.aload_n 0, 1) := by decide +kernel
theorem dX3_handsWithout_24 : decode cX3_handsWithout 24 = .ok (.getfield 12, 3) := by decide +kernel
theorem dX3_handsWithout_27 : decode cX3_handsWithout 27 = .ok (.invokevirtual 51, 3) := by decide +kernel
theorem dX3_handsWithout_30 : decode cX3_handsWithout 30 = .ok (.aload_n 0, 1) := by decide +kernel
theorem dX3_handsWithout_31 : decode cX3_handsWithout 31 = .ok (.getfield 21, 3) := by decide +kernel
theorem dX3_handsWithout_34 : decode cX3_handsWithout 34 = .ok (.aload_n 0, 1) := by decide +kernel
theorem dX3_handsWithout_35 : decode cX3_handsWithout 35 = .ok (.getfield 12, 3) := by decide +kernel
theorem dX3_handsWithout_38 : decode cX3_handsWithout 38 = .ok (.getfield 56, 3) := by decide +kernel
theorem dX3_handsWithout_41 : decode cX3_handsWithout 41 = .ok (.invokevirtual 59, 3) := by decide +kernel
theorem dX3_handsWithout_44 : decode cX3_handsWithout 44 = .ok (.aload_n 0, 1) := by decide +kernel
theorem dX3_handsWithout_45 : decode cX3_handsWithout 45 = .ok (.getfield 21, 3) := by decide +kernel
theorem dX3_handsWithout_48 : decode cX3_handsWithout 48 = .ok (.getfield 62, 3) := by decide +kernel
theorem dX3_handsWithout_51 : decode cX3_handsWithout 51 = .ok (.ireturn, 1) := by decide +kernel
theorem dX3_leastLimit_0 : decode cX3_leastLimit 0 = .ok (.aload_n 0, 1) := by decide +kernel
theorem dX3_leastLimit_1 : decode cX3_leastLimit 1 = .ok (.getfield 21, 3) := by decide +kernel
theorem dX3_leastLimit_4 : decode cX3_leastLimit 4 = .ok (.getfield 47, 3) := by decide +kernel
theorem dX3_leastLimit_7 : decode cX3_leastLimit 7 = .ok (.aload_n 1, 1) := by decide +kernel
theorem dX3_leastLimit_8 : decode cX3_leastLimit 8 = .ok (.invokevirtual 51, 3) := by decide +kernel
theorem dX3_leastLimit_11 : decode cX3_leastLimit 11 = .ok (.iconst 0, 1) := by decide +kernel
theorem dX3_leastLimit_12 : decode cX3_leastLimit 12 = .ok (.istore_n 3, 1) := by decide +kernel
theorem dX3_leastLimit_13 : decode cX3_leastLimit 13 = .ok (.sipush 200, 3) := by decide +kernel
theorem dX3_leastLimit_16 : decode cX3_leastLimit 16 = .ok (.istore 4, 2) := by decide +kernel
theorem dX3_leastLimit_18 : decode cX3_leastLimit 18 = .ok (.iconst 0, 1) := by decide +kernel
theorem dX3_leastLimit_19 : decode cX3_leastLimit 19 = .ok (.istore 5, 2) := by decide +kernel
theorem dX3_leastLimit_21 : decode cX3_leastLimit 21 = .ok (.iload 5, 2) := by decide +kernel
theorem dX3_leastLimit_23 : decode cX3_leastLimit 23 = .ok (.bipush 10, 2) := by decide +kernel
theorem dX3_leastLimit_25 : decode cX3_leastLimit 25 = .ok (.if_icmp .ge 69, 3) := by decide +kernel
theorem dX3_leastLimit_28 : decode cX3_leastLimit 28 = .ok (.iload_n 3, 1) := by decide +kernel
theorem dX3_leastLimit_29 : decode cX3_leastLimit 29 = .ok (.iload 4, 2) := by decide +kernel
theorem dX3_leastLimit_31 : decode cX3_leastLimit 31 = .ok (.if_icmp .ge 63, 3) := by decide +kernel
theorem dX3_leastLimit_34 : decode cX3_leastLimit 34 = .ok (.iload_n 3, 1) := by decide +kernel
theorem dX3_leastLimit_35 : decode cX3_leastLimit 35 = .ok (.iload 4, 2) := by decide +kernel
theorem dX3_leastLimit_37 : decode cX3_leastLimit 37 = .ok (.iadd, 1) := by decide +kernel
theorem dX3_leastLimit_38 : decode cX3_leastLimit 38 = .ok (.iconst 2, 1) := by decide +kernel
theorem dX3_leastLimit_39 : decode cX3_leastLimit 39 = .ok (.idiv, 1) := by decide +kernel
theorem dX3_leastLimit_40 : decode cX3_leastLimit 40 = .ok (.istore 6, 2) := by decide +kernel
theorem dX3_leastLimit_42 : decode cX3_leastLimit 42 = .ok (.aload_n 0, 1) := by decide +kernel
theorem dX3_leastLimit_43 : decode cX3_leastLimit 43 = .ok (.getfield 21, 3) := by decide +kernel
theorem dX3_leastLimit_46 : decode cX3_leastLimit 46 = .ok (.getfield 47, 3) := by decide +kernel
theorem dX3_leastLimit_49 : decode cX3_leastLimit 49 = .ok (.iload 6, 2) := by decide +kernel
theorem dX3_leastLimit_51 : decode cX3_leastLimit 51 = .ok (.invokevirtual 65, 3) := by decide +kernel
theorem dX3_leastLimit_54 : decode cX3_leastLimit 54 = .ok (.aload_n 0, 1) := by decide +kernel
theorem dX3_leastLimit_55 : decode cX3_leastLimit 55 = .ok (.getfield 21, 3) := by decide +kernel
theorem dX3_leastLimit_58 : decode cX3_leastLimit 58 = .ok (.invokevirtual 68, 3) := by decide +kernel
theorem dX3_leastLimit_61 : decode cX3_leastLimit 61 = .ok (.iload_n 2, 1) := by decide +kernel
theorem dX3_leastLimit_62 : decode cX3_leastLimit 62 = .ok (.if_icmp .gt 21, 3) := by decide +kernel
theorem dX3_leastLimit_65 : decode cX3_leastLimit 65 = .ok (.aload_n 0, 1) := by decide +kernel
theorem dX3_leastLimit_66 : decode cX3_leastLimit 66 = .ok (.getfield 21, 3) := by decide +kernel
theorem dX3_leastLimit_69 : decode cX3_leastLimit 69 = .ok (.iload_n 2, 1) := by decide +kernel
theorem dX3_leastLimit_70 : decode cX3_leastLimit 70 = .ok (.invokevirtual 72, 3) := by decide +kernel
theorem dX3_leastLimit_73 : decode cX3_leastLimit 73 = .ok (.ifCond .eq 10, 3) := by decide +kernel
theorem dX3_leastLimit_76 : decode cX3_leastLimit 76 = .ok (.iload 6, 2) := by decide +kernel
theorem dX3_leastLimit_78 : decode cX3_leastLimit 78 = .ok (.istore 4, 2) := by decide +kernel
theorem dX3_leastLimit_80 : decode cX3_leastLimit 80 = .ok (.goto 8, 3) := by decide +kernel
theorem dX3_leastLimit_83 : decode cX3_leastLimit 83 = .ok (.iload 6, 2) := by decide +kernel
theorem dX3_leastLimit_85 : decode cX3_leastLimit 85 = .ok (.iconst 1, 1) := by decide +kernel
theorem dX3_leastLimit_86 : decode cX3_leastLimit 86 = .ok (.iadd, 1) := by decide +kernel
theorem dX3_leastLimit_87 : decode cX3_leastLimit 87 = .ok (.istore_n 3, 1) := by decide +kernel
theorem dX3_leastLimit_88 : decode cX3_leastLimit 88 = .ok (.iinc 5 1, 3) := by decide +kernel
theorem dX3_leastLimit_91 : decode cX3_leastLimit 91 = .ok (.goto (-70), 3) := by decide +kernel
theorem dX3_leastLimit_94 : decode cX3_leastLimit 94 = .ok (.iload_n 3, 1) := by decide +kernel
theorem dX3_leastLimit_95 : decode cX3_leastLimit 95 = .ok (.ireturn, 1) := by decide +kernel
theorem dX3_hear_0 : decode cX3_hear 0 = .ok (.aload_n 0, 1) := by decide +kernel
theorem dX3_hear_1 : decode cX3_hear 1 = .ok (.iconst 0, 1) := by decide +kernel
theorem dX3_hear_2 : decode cX3_hear 2 = .ok (.putfield 29, 3) := by decide +kernel
theorem dX3_hear_5 : decode cX3_hear 5 = .ok (.iconst 0, 1) := by decide +kernel
theorem dX3_hear_6 : decode cX3_hear 6 = .ok (.istore 4, 2) := by decide +kernel
theorem dX3_hear_8 : decode cX3_hear 8 = .ok (.iload 4, 2) := by decide +kernel
theorem dX3_hear_10 : decode cX3_hear 10 = .ok (.iload_n 3, 1) := by decide +kernel
theorem dX3_hear_11 : decode cX3_hear 11 = .ok (.if_icmp .ge 48, 3) := by decide +kernel
theorem dX3_hear_14 : decode cX3_hear 14 = .ok (.iload 4, 2) := by decide +kernel
theorem dX3_hear_16 : decode cX3_hear 16 = .ok (.bipush 10, 2) := by decide +kernel
theorem dX3_hear_18 : decode cX3_hear 18 = .ok (.if_icmp .ge 41, 3) := by decide +kernel
theorem dX3_hear_21 : decode cX3_hear 21 = .ok (.iload_n 2, 1) := by decide +kernel
theorem dX3_hear_22 : decode cX3_hear 22 = .ok (.iload 4, 2) := by decide +kernel
theorem dX3_hear_24 : decode cX3_hear 24 = .ok (.iadd, 1) := by decide +kernel
theorem dX3_hear_25 : decode cX3_hear 25 = .ok (.aload_n 1, 1) := by decide +kernel
theorem dX3_hear_26 : decode cX3_hear 26 = .ok (.arraylength, 1) := by decide +kernel
theorem dX3_hear_27 : decode cX3_hear 27 = .ok (.if_icmp .ge 32, 3) := by decide +kernel
theorem dX3_hear_30 : decode cX3_hear 30 = .ok (.aload_n 0, 1) := by decide +kernel
theorem dX3_hear_31 : decode cX3_hear 31 = .ok (.getfield 25, 3) := by decide +kernel
theorem dX3_hear_34 : decode cX3_hear 34 = .ok (.iload 4, 2) := by decide +kernel
theorem dX3_hear_36 : decode cX3_hear 36 = .ok (.aload_n 1, 1) := by decide +kernel
theorem dX3_hear_37 : decode cX3_hear 37 = .ok (.iload_n 2, 1) := by decide +kernel
theorem dX3_hear_38 : decode cX3_hear 38 = .ok (.iload 4, 2) := by decide +kernel
theorem dX3_hear_40 : decode cX3_hear 40 = .ok (.iadd, 1) := by decide +kernel
theorem dX3_hear_41 : decode cX3_hear 41 = .ok (.iaload, 1) := by decide +kernel
theorem dX3_hear_42 : decode cX3_hear 42 = .ok (.iastore, 1) := by decide +kernel
theorem dX3_hear_43 : decode cX3_hear 43 = .ok (.aload_n 0, 1) := by decide +kernel
theorem dX3_hear_44 : decode cX3_hear 44 = .ok (.dup, 1) := by decide +kernel
theorem dX3_hear_45 : decode cX3_hear 45 = .ok (.getfield 29, 3) := by decide +kernel
theorem dX3_hear_48 : decode cX3_hear 48 = .ok (.iconst 1, 1) := by decide +kernel
theorem dX3_hear_49 : decode cX3_hear 49 = .ok (.iadd, 1) := by decide +kernel
theorem dX3_hear_50 : decode cX3_hear 50 = .ok (.putfield 29, 3) := by decide +kernel
theorem dX3_hear_53 : decode cX3_hear 53 = .ok (.iinc 4 1, 3) := by decide +kernel
theorem dX3_hear_56 : decode cX3_hear 56 = .ok (.goto (-48), 3) := by decide +kernel
theorem dX3_hear_59 : decode cX3_hear 59 = .ok (.return_, 1) := by decide +kernel
theorem dX3_limitsOf_0 : decode cX3_limitsOf 0 = .ok (.aload_n 0, 1) := by decide +kernel
theorem dX3_limitsOf_1 : decode cX3_limitsOf 1 = .ok (.getfield 21, 3) := by decide +kernel
theorem dX3_limitsOf_4 : decode cX3_limitsOf 4 = .ok (.getfield 47, 3) := by decide +kernel
theorem dX3_limitsOf_7 : decode cX3_limitsOf 7 = .ok (.aload_n 1, 1) := by decide +kernel
theorem dX3_limitsOf_8 : decode cX3_limitsOf 8 = .ok (.invokevirtual 51, 3) := by decide +kernel
theorem dX3_limitsOf_11 : decode cX3_limitsOf 11 = .ok (.lconst 0, 1) := by decide +kernel
theorem dX3_limitsOf_12 : decode cX3_limitsOf 12 = .ok (.lstore_n 2, 1) := by decide +kernel
theorem dX3_limitsOf_13 : decode cX3_limitsOf 13 = .ok (.iconst 0, 1) := by decide +kernel
theorem dX3_limitsOf_14 : decode cX3_limitsOf 14 = .ok (.istore 4, 2) := by decide +kernel
theorem dX3_limitsOf_16 : decode cX3_limitsOf 16 = .ok (.iload 4, 2) := by decide +kernel
theorem dX3_limitsOf_18 : decode cX3_limitsOf 18 = .ok (.bipush 60, 2) := by decide +kernel
theorem dX3_limitsOf_20 : decode cX3_limitsOf 20 = .ok (.if_icmp .gt 25, 3) := by decide +kernel
theorem dX3_limitsOf_23 : decode cX3_limitsOf 23 = .ok (.aload_n 0, 1) := by decide +kernel
theorem dX3_limitsOf_24 : decode cX3_limitsOf 24 = .ok (.iload 4, 2) := by decide +kernel
theorem dX3_limitsOf_26 : decode cX3_limitsOf 26 = .ok (.invokevirtual 76, 3) := by decide +kernel
theorem dX3_limitsOf_29 : decode cX3_limitsOf 29 = .ok (.ifCond .eq 10, 3) := by decide +kernel
theorem dX3_limitsOf_32 : decode cX3_limitsOf 32 = .ok (.lload_n 2, 1) := by decide +kernel
theorem dX3_limitsOf_33 : decode cX3_limitsOf 33 = .ok (.lconst 1, 1) := by decide +kernel
theorem dX3_limitsOf_34 : decode cX3_limitsOf 34 = .ok (.iload 4, 2) := by decide +kernel
theorem dX3_limitsOf_36 : decode cX3_limitsOf 36 = .ok (.lshl, 1) := by decide +kernel
theorem dX3_limitsOf_37 : decode cX3_limitsOf 37 = .ok (.lor, 1) := by decide +kernel
theorem dX3_limitsOf_38 : decode cX3_limitsOf 38 = .ok (.lstore_n 2, 1) := by decide +kernel
theorem dX3_limitsOf_39 : decode cX3_limitsOf 39 = .ok (.iinc 4 1, 3) := by decide +kernel
theorem dX3_limitsOf_42 : decode cX3_limitsOf 42 = .ok (.goto (-26), 3) := by decide +kernel
theorem dX3_limitsOf_45 : decode cX3_limitsOf 45 = .ok (.lload_n 2, 1) := by decide +kernel
theorem dX3_limitsOf_46 : decode cX3_limitsOf 46 = .ok (.lreturn, 1) := by decide +kernel
theorem dX3_kindsOf_0 : decode cX3_kindsOf 0 = .ok (.aload_n 0, 1) := by decide +kernel
theorem dX3_kindsOf_1 : decode cX3_kindsOf 1 = .ok (.getfield 12, 3) := by decide +kernel
theorem dX3_kindsOf_4 : decode cX3_kindsOf 4 = .ok (.aload_n 1, 1) := by decide +kernel
theorem dX3_kindsOf_5 : decode cX3_kindsOf 5 = .ok (.invokevirtual 39, 3) := by decide +kernel
theorem dX3_kindsOf_8 : decode cX3_kindsOf 8 = .ok (.aload_n 0, 1) := by decide +kernel
theorem dX3_kindsOf_9 : decode cX3_kindsOf 9 = .ok (.getfield 21, 3) := by decide +kernel
theorem dX3_kindsOf_12 : decode cX3_kindsOf 12 = .ok (.getfield 47, 3) := by decide +kernel
theorem dX3_kindsOf_15 : decode cX3_kindsOf 15 = .ok (.aload_n 0, 1) := by decide +kernel
theorem dX3_kindsOf_16 : decode cX3_kindsOf 16 = .ok (.getfield 12, 3) := by decide +kernel
theorem dX3_kindsOf_19 : decode cX3_kindsOf 19 = .ok (.invokevirtual 51, 3) := by decide +kernel
theorem dX3_kindsOf_22 : decode cX3_kindsOf 22 = .ok (.iconst 0, 1) := by decide +kernel
theorem dX3_kindsOf_23 : decode cX3_kindsOf 23 = .ok (.istore_n 3, 1) := by decide +kernel
theorem dX3_kindsOf_24 : decode cX3_kindsOf 24 = .ok (.iconst 1, 1) := by decide +kernel
theorem dX3_kindsOf_25 : decode cX3_kindsOf 25 = .ok (.istore 4, 2) := by decide +kernel
theorem dX3_kindsOf_27 : decode cX3_kindsOf 27 = .ok (.iload 4, 2) := by decide +kernel
theorem dX3_kindsOf_29 : decode cX3_kindsOf 29 = .ok (.iconst 5, 1) := by decide +kernel
theorem dX3_kindsOf_30 : decode cX3_kindsOf 30 = .ok (.if_icmp .gt 56, 3) := by decide +kernel
theorem dX3_kindsOf_33 : decode cX3_kindsOf 33 = .ok (.aload_n 0, 1) := by decide +kernel
theorem dX3_kindsOf_34 : decode cX3_kindsOf 34 = .ok (.getfield 12, 3) := by decide +kernel
theorem dX3_kindsOf_37 : decode cX3_kindsOf 37 = .ok (.getfield 79, 3) := by decide +kernel
theorem dX3_kindsOf_40 : decode cX3_kindsOf 40 = .ok (.iload_n 2, 1) := by decide +kernel
theorem dX3_kindsOf_41 : decode cX3_kindsOf 41 = .ok (.iload 4, 2) := by decide +kernel
theorem dX3_kindsOf_43 : decode cX3_kindsOf 43 = .ok (.iastore, 1) := by decide +kernel
theorem dX3_kindsOf_44 : decode cX3_kindsOf 44 = .ok (.aload_n 0, 1) := by decide +kernel
theorem dX3_kindsOf_45 : decode cX3_kindsOf 45 = .ok (.getfield 21, 3) := by decide +kernel
theorem dX3_kindsOf_48 : decode cX3_kindsOf 48 = .ok (.getfield 47, 3) := by decide +kernel
theorem dX3_kindsOf_51 : decode cX3_kindsOf 51 = .ok (.aload_n 0, 1) := by decide +kernel
theorem dX3_kindsOf_52 : decode cX3_kindsOf 52 = .ok (.getfield 12, 3) := by decide +kernel
theorem dX3_kindsOf_55 : decode cX3_kindsOf 55 = .ok (.iload_n 2, 1) := by decide +kernel
theorem dX3_kindsOf_56 : decode cX3_kindsOf 56 = .ok (.invokevirtual 82, 3) := by decide +kernel
theorem dX3_kindsOf_59 : decode cX3_kindsOf 59 = .ok (.aload_n 0, 1) := by decide +kernel
theorem dX3_kindsOf_60 : decode cX3_kindsOf 60 = .ok (.aload_n 0, 1) := by decide +kernel
theorem dX3_kindsOf_61 : decode cX3_kindsOf 61 = .ok (.getfield 12, 3) := by decide +kernel
theorem dX3_kindsOf_64 : decode cX3_kindsOf 64 = .ok (.getfield 56, 3) := by decide +kernel
theorem dX3_kindsOf_67 : decode cX3_kindsOf 67 = .ok (.invokevirtual 76, 3) := by decide +kernel
theorem dX3_kindsOf_70 : decode cX3_kindsOf 70 = .ok (.ifCond .eq 10, 3) := by decide +kernel
theorem dX3_kindsOf_73 : decode cX3_kindsOf 73 = .ok (.iload_n 3, 1) := by decide +kernel
theorem dX3_kindsOf_74 : decode cX3_kindsOf 74 = .ok (.iconst 1, 1) := by decide +kernel
theorem dX3_kindsOf_75 : decode cX3_kindsOf 75 = .ok (.iload 4, 2) := by decide +kernel
theorem dX3_kindsOf_77 : decode cX3_kindsOf 77 = .ok (.ishl, 1) := by decide +kernel
theorem dX3_kindsOf_78 : decode cX3_kindsOf 78 = .ok (.ior, 1) := by decide +kernel
theorem dX3_kindsOf_79 : decode cX3_kindsOf 79 = .ok (.istore_n 3, 1) := by decide +kernel
theorem dX3_kindsOf_80 : decode cX3_kindsOf 80 = .ok (.iinc 4 1, 3) := by decide +kernel
theorem dX3_kindsOf_83 : decode cX3_kindsOf 83 = .ok (.goto (-56), 3) := by decide +kernel
theorem dX3_kindsOf_86 : decode cX3_kindsOf 86 = .ok (.iload_n 3, 1) := by decide +kernel
theorem dX3_kindsOf_87 : decode cX3_kindsOf 87 = .ok (.ireturn, 1) := by decide +kernel
theorem dX3_numbersOf_0 : decode cX3_numbersOf 0 = .ok (.aload_n 0, 1) := by decide +kernel
theorem dX3_numbersOf_1 : decode cX3_numbersOf 1 = .ok (.getfield 12, 3) := by decide +kernel
theorem dX3_numbersOf_4 : decode cX3_numbersOf 4 = .ok (.aload_n 1, 1) := by decide +kernel
theorem dX3_numbersOf_5 : decode cX3_numbersOf 5 = .ok (.invokevirtual 39, 3) := by decide +kernel
theorem dX3_numbersOf_8 : decode cX3_numbersOf 8 = .ok (.aload_n 0, 1) := by decide +kernel
theorem dX3_numbersOf_9 : decode cX3_numbersOf 9 = .ok (.getfield 21, 3) := by decide +kernel
theorem dX3_numbersOf_12 : decode cX3_numbersOf 12 = .ok (.getfield 47, 3) := by decide +kernel
theorem dX3_numbersOf_15 : decode cX3_numbersOf 15 = .ok (.aload_n 0, 1) := by decide +kernel
theorem dX3_numbersOf_16 : decode cX3_numbersOf 16 = .ok (.getfield 12, 3) := by decide +kernel
theorem dX3_numbersOf_19 : decode cX3_numbersOf 19 = .ok (.invokevirtual 51, 3) := by decide +kernel
theorem dX3_numbersOf_22 : decode cX3_numbersOf 22 = .ok (.iconst 0, 1) := by decide +kernel
theorem dX3_numbersOf_23 : decode cX3_numbersOf 23 = .ok (.istore 4, 2) := by decide +kernel
theorem dX3_numbersOf_25 : decode cX3_numbersOf 25 = .ok (.iconst 0, 1) := by decide +kernel
theorem dX3_numbersOf_26 : decode cX3_numbersOf 26 = .ok (.istore 5, 2) := by decide +kernel
theorem dX3_numbersOf_28 : decode cX3_numbersOf 28 = .ok (.iload 5, 2) := by decide +kernel
theorem dX3_numbersOf_30 : decode cX3_numbersOf 30 = .ok (.bipush 30, 2) := by decide +kernel
theorem dX3_numbersOf_32 : decode cX3_numbersOf 32 = .ok (.if_icmp .gt 60, 3) := by decide +kernel
theorem dX3_numbersOf_35 : decode cX3_numbersOf 35 = .ok (.aload_n 0, 1) := by decide +kernel
theorem dX3_numbersOf_36 : decode cX3_numbersOf 36 = .ok (.getfield 12, 3) := by decide +kernel
theorem dX3_numbersOf_39 : decode cX3_numbersOf 39 = .ok (.getfield 86, 3) := by decide +kernel
theorem dX3_numbersOf_42 : decode cX3_numbersOf 42 = .ok (.iload_n 3, 1) := by decide +kernel
theorem dX3_numbersOf_43 : decode cX3_numbersOf 43 = .ok (.aaload, 1) := by decide +kernel
theorem dX3_numbersOf_44 : decode cX3_numbersOf 44 = .ok (.iload_n 2, 1) := by decide +kernel
theorem dX3_numbersOf_45 : decode cX3_numbersOf 45 = .ok (.iload 5, 2) := by decide +kernel
theorem dX3_numbersOf_47 : decode cX3_numbersOf 47 = .ok (.iastore, 1) := by decide +kernel
theorem dX3_numbersOf_48 : decode cX3_numbersOf 48 = .ok (.aload_n 0, 1) := by decide +kernel
theorem dX3_numbersOf_49 : decode cX3_numbersOf 49 = .ok (.getfield 21, 3) := by decide +kernel
theorem dX3_numbersOf_52 : decode cX3_numbersOf 52 = .ok (.getfield 47, 3) := by decide +kernel
theorem dX3_numbersOf_55 : decode cX3_numbersOf 55 = .ok (.aload_n 0, 1) := by decide +kernel
theorem dX3_numbersOf_56 : decode cX3_numbersOf 56 = .ok (.getfield 12, 3) := by decide +kernel
theorem dX3_numbersOf_59 : decode cX3_numbersOf 59 = .ok (.iload_n 2, 1) := by decide +kernel
theorem dX3_numbersOf_60 : decode cX3_numbersOf 60 = .ok (.invokevirtual 82, 3) := by decide +kernel
theorem dX3_numbersOf_63 : decode cX3_numbersOf 63 = .ok (.aload_n 0, 1) := by decide +kernel
theorem dX3_numbersOf_64 : decode cX3_numbersOf 64 = .ok (.aload_n 0, 1) := by decide +kernel
theorem dX3_numbersOf_65 : decode cX3_numbersOf 65 = .ok (.getfield 12, 3) := by decide +kernel
theorem dX3_numbersOf_68 : decode cX3_numbersOf 68 = .ok (.getfield 56, 3) := by decide +kernel
theorem dX3_numbersOf_71 : decode cX3_numbersOf 71 = .ok (.invokevirtual 76, 3) := by decide +kernel
theorem dX3_numbersOf_74 : decode cX3_numbersOf 74 = .ok (.ifCond .eq 12, 3) := by decide +kernel
theorem dX3_numbersOf_77 : decode cX3_numbersOf 77 = .ok (.iload 4, 2) := by decide +kernel
theorem dX3_numbersOf_79 : decode cX3_numbersOf 79 = .ok (.iconst 1, 1) := by decide +kernel
theorem dX3_numbersOf_80 : decode cX3_numbersOf 80 = .ok (.iload 5, 2) := by decide +kernel
theorem dX3_numbersOf_82 : decode cX3_numbersOf 82 = .ok (.ishl, 1) := by decide +kernel
theorem dX3_numbersOf_83 : decode cX3_numbersOf 83 = .ok (.ior, 1) := by decide +kernel
theorem dX3_numbersOf_84 : decode cX3_numbersOf 84 = .ok (.istore 4, 2) := by decide +kernel
theorem dX3_numbersOf_86 : decode cX3_numbersOf 86 = .ok (.iinc 5 1, 3) := by decide +kernel
theorem dX3_numbersOf_89 : decode cX3_numbersOf 89 = .ok (.goto (-61), 3) := by decide +kernel
theorem dX3_numbersOf_92 : decode cX3_numbersOf 92 = .ok (.iload 4, 2) := by decide +kernel
theorem dX3_numbersOf_94 : decode cX3_numbersOf 94 = .ok (.ireturn, 1) := by decide +kernel
theorem dX3_isSoBy_0 : decode cX3_isSoBy 0 = .ok (.aload_n 0, 1) := by decide +kernel
theorem dX3_isSoBy_1 : decode cX3_isSoBy 1 = .ok (.getfield 21, 3) := by decide +kernel
theorem dX3_isSoBy_4 : decode cX3_isSoBy 4 = .ok (.iload_n 1, 1) := by decide +kernel
theorem dX3_isSoBy_5 : decode cX3_isSoBy 5 = .ok (.invokevirtual 59, 3) := by decide +kernel
theorem dX3_isSoBy_8 : decode cX3_isSoBy 8 = .ok (.iconst 0, 1) := by decide +kernel
theorem dX3_isSoBy_9 : decode cX3_isSoBy 9 = .ok (.istore_n 2, 1) := by decide +kernel
theorem dX3_isSoBy_10 : decode cX3_isSoBy 10 = .ok (.iload_n 2, 1) := by decide +kernel
theorem dX3_isSoBy_11 : decode cX3_isSoBy 11 = .ok (.aload_n 0, 1) := by decide +kernel
theorem dX3_isSoBy_12 : decode cX3_isSoBy 12 = .ok (.getfield 29, 3) := by decide +kernel
theorem dX3_isSoBy_15 : decode cX3_isSoBy 15 = .ok (.if_icmp .ge 29, 3) := by decide +kernel
theorem dX3_isSoBy_18 : decode cX3_isSoBy 18 = .ok (.aload_n 0, 1) := by decide +kernel
theorem dX3_isSoBy_19 : decode cX3_isSoBy 19 = .ok (.getfield 21, 3) := by decide +kernel
theorem dX3_isSoBy_22 : decode cX3_isSoBy 22 = .ok (.getfield 90, 3) := by decide +kernel
theorem dX3_isSoBy_25 : decode cX3_isSoBy 25 = .ok (.iload_n 2, 1) := by decide +kernel
theorem dX3_isSoBy_26 : decode cX3_isSoBy 26 = .ok (.iaload, 1) := by decide +kernel
theorem dX3_isSoBy_27 : decode cX3_isSoBy 27 = .ok (.aload_n 0, 1) := by decide +kernel
theorem dX3_isSoBy_28 : decode cX3_isSoBy 28 = .ok (.getfield 25, 3) := by decide +kernel
theorem dX3_isSoBy_31 : decode cX3_isSoBy 31 = .ok (.iload_n 2, 1) := by decide +kernel
theorem dX3_isSoBy_32 : decode cX3_isSoBy 32 = .ok (.iaload, 1) := by decide +kernel
theorem dX3_isSoBy_33 : decode cX3_isSoBy 33 = .ok (.if_icmp .eq 5, 3) := by decide +kernel
theorem dX3_isSoBy_36 : decode cX3_isSoBy 36 = .ok (.iconst 0, 1) := by decide +kernel
theorem dX3_isSoBy_37 : decode cX3_isSoBy 37 = .ok (.ireturn, 1) := by decide +kernel
theorem dX3_isSoBy_38 : decode cX3_isSoBy 38 = .ok (.iinc 2 1, 3) := by decide +kernel
theorem dX3_isSoBy_41 : decode cX3_isSoBy 41 = .ok (.goto (-31), 3) := by decide +kernel
theorem dX3_isSoBy_44 : decode cX3_isSoBy 44 = .ok (.iconst 1, 1) := by decide +kernel
theorem dX3_isSoBy_45 : decode cX3_isSoBy 45 = .ok (.ireturn, 1) := by decide +kernel
theorem dX3_goodCases_0 : decode cX3_goodCases 0 = .ok (.aload_n 0, 1) := by decide +kernel
theorem dX3_goodCases_1 : decode cX3_goodCases 1 = .ok (.getfield 21, 3) := by decide +kernel
theorem dX3_goodCases_4 : decode cX3_goodCases 4 = .ok (.getfield 47, 3) := by decide +kernel
theorem dX3_goodCases_7 : decode cX3_goodCases 7 = .ok (.aload_n 1, 1) := by decide +kernel
theorem dX3_goodCases_8 : decode cX3_goodCases 8 = .ok (.invokevirtual 51, 3) := by decide +kernel
theorem dX3_goodCases_11 : decode cX3_goodCases 11 = .ok (.aload_n 0, 1) := by decide +kernel
theorem dX3_goodCases_12 : decode cX3_goodCases 12 = .ok (.getfield 21, 3) := by decide +kernel
theorem dX3_goodCases_15 : decode cX3_goodCases 15 = .ok (.getfield 47, 3) := by decide +kernel
theorem dX3_goodCases_18 : decode cX3_goodCases 18 = .ok (.aload_n 1, 1) := by decide +kernel
theorem dX3_goodCases_19 : decode cX3_goodCases 19 = .ok (.getfield 56, 3) := by decide +kernel
theorem dX3_goodCases_22 : decode cX3_goodCases 22 = .ok (.invokevirtual 65, 3) := by decide +kernel
theorem dX3_goodCases_25 : decode cX3_goodCases 25 = .ok (.aload_n 0, 1) := by decide +kernel
theorem dX3_goodCases_26 : decode cX3_goodCases 26 = .ok (.getfield 36, 3) := by decide +kernel
theorem dX3_goodCases_29 : decode cX3_goodCases 29 = .ok (.iconst 0, 1) := by decide +kernel
theorem dX3_goodCases_30 : decode cX3_goodCases 30 = .ok (.invokestatic 93, 3) := by decide +kernel
theorem dX3_goodCases_33 : decode cX3_goodCases 33 = .ok (.iconst 0, 1) := by decide +kernel
theorem dX3_goodCases_34 : decode cX3_goodCases 34 = .ok (.istore 4, 2) := by decide +kernel
theorem dX3_goodCases_36 : decode cX3_goodCases 36 = .ok (.iload 4, 2) := by decide +kernel
theorem dX3_goodCases_38 : decode cX3_goodCases 38 = .ok (.iconst 1, 1) := by decide +kernel
theorem dX3_goodCases_39 : decode cX3_goodCases 39 = .ok (.aload_n 1, 1) := by decide +kernel
theorem dX3_goodCases_40 : decode cX3_goodCases 40 = .ok (.getfield 99, 3) := by decide +kernel
theorem dX3_goodCases_43 : decode cX3_goodCases 43 = .ok (.ishl, 1) := by decide +kernel
theorem dX3_goodCases_44 : decode cX3_goodCases 44 = .ok (.if_icmp .ge 47, 3) := by decide +kernel
theorem dX3_goodCases_47 : decode cX3_goodCases 47 = .ok (.aload_n 0, 1) := by decide +kernel
theorem dX3_goodCases_48 : decode cX3_goodCases 48 = .ok (.getfield 33, 3) := by decide +kernel
theorem dX3_goodCases_51 : decode cX3_goodCases 51 = .ok (.iload 4, 2) := by decide +kernel
theorem dX3_goodCases_53 : decode cX3_goodCases 53 = .ok (.aload_n 0, 1) := by decide +kernel
theorem dX3_goodCases_54 : decode cX3_goodCases 54 = .ok (.iload 4, 2) := by decide +kernel
theorem dX3_goodCases_56 : decode cX3_goodCases 56 = .ok (.invokevirtual 102, 3) := by decide +kernel
theorem dX3_goodCases_59 : decode cX3_goodCases 59 = .ok (.iastore, 1) := by decide +kernel
theorem dX3_goodCases_60 : decode cX3_goodCases 60 = .ok (.aload_n 0, 1) := by decide +kernel
theorem dX3_goodCases_61 : decode cX3_goodCases 61 = .ok (.getfield 33, 3) := by decide +kernel
theorem dX3_goodCases_64 : decode cX3_goodCases 64 = .ok (.iload 4, 2) := by decide +kernel
theorem dX3_goodCases_66 : decode cX3_goodCases 66 = .ok (.iaload, 1) := by decide +kernel
theorem dX3_goodCases_67 : decode cX3_goodCases 67 = .ok (.iload_n 2, 1) := by decide +kernel
theorem dX3_goodCases_68 : decode cX3_goodCases 68 = .ok (.if_icmp .gt 17, 3) := by decide +kernel
theorem dX3_goodCases_71 : decode cX3_goodCases 71 = .ok (.aload_n 0, 1) := by decide +kernel
theorem dX3_goodCases_72 : decode cX3_goodCases 72 = .ok (.getfield 36, 3) := by decide +kernel
theorem dX3_goodCases_75 : decode cX3_goodCases 75 = .ok (.iload 4, 2) := by decide +kernel
theorem dX3_goodCases_77 : decode cX3_goodCases 77 = .ok (.invokestatic 106, 3) := by decide +kernel
theorem dX3_goodCases_80 : decode cX3_goodCases 80 = .ok (.dup2, 1) := by decide +kernel
theorem dX3_goodCases_81 : decode cX3_goodCases 81 = .ok (.iaload, 1) := by decide +kernel
theorem dX3_goodCases_82 : decode cX3_goodCases 82 = .ok (.iconst 1, 1) := by decide +kernel
theorem dX3_goodCases_83 : decode cX3_goodCases 83 = .ok (.iadd, 1) := by decide +kernel
theorem dX3_goodCases_84 : decode cX3_goodCases 84 = .ok (.iastore, 1) := by decide +kernel
theorem dX3_goodCases_85 : decode cX3_goodCases 85 = .ok (.iinc 4 1, 3) := by decide +kernel
theorem dX3_goodCases_88 : decode cX3_goodCases 88 = .ok (.goto (-52), 3) := by decide +kernel
theorem dX3_goodCases_91 : decode cX3_goodCases 91 = .ok (.lconst 0, 1) := by decide +kernel
theorem dX3_goodCases_92 : decode cX3_goodCases 92 = .ok (.lstore 4, 2) := by decide +kernel
theorem dX3_goodCases_94 : decode cX3_goodCases 94 = .ok (.iconst 0, 1) := by decide +kernel
theorem dX3_goodCases_95 : decode cX3_goodCases 95 = .ok (.istore 6, 2) := by decide +kernel
theorem dX3_goodCases_97 : decode cX3_goodCases 97 = .ok (.iload 6, 2) := by decide +kernel
theorem dX3_goodCases_99 : decode cX3_goodCases 99 = .ok (.aload_n 1, 1) := by decide +kernel
theorem dX3_goodCases_100 : decode cX3_goodCases 100 = .ok (.getfield 99, 3) := by decide +kernel
theorem dX3_goodCases_103 : decode cX3_goodCases 103 = .ok (.if_icmp .gt 44, 3) := by decide +kernel
theorem dX3_goodCases_106 : decode cX3_goodCases 106 = .ok (.lload 4, 2) := by decide +kernel
theorem dX3_goodCases_108 : decode cX3_goodCases 108 = .ok (.aload_n 0, 1) := by decide +kernel
theorem dX3_goodCases_109 : decode cX3_goodCases 109 = .ok (.getfield 36, 3) := by decide +kernel
theorem dX3_goodCases_112 : decode cX3_goodCases 112 = .ok (.iload 6, 2) := by decide +kernel
theorem dX3_goodCases_114 : decode cX3_goodCases 114 = .ok (.iaload, 1) := by decide +kernel
theorem dX3_goodCases_115 : decode cX3_goodCases 115 = .ok (.i2l, 1) := by decide +kernel
theorem dX3_goodCases_116 : decode cX3_goodCases 116 = .ok (.bipush 10, 2) := by decide +kernel
theorem dX3_goodCases_118 : decode cX3_goodCases 118 = .ok (.iload_n 3, 1) := by decide +kernel
theorem dX3_goodCases_119 : decode cX3_goodCases 119 = .ok (.isub, 1) := by decide +kernel
theorem dX3_goodCases_120 : decode cX3_goodCases 120 = .ok (.iload 6, 2) := by decide +kernel
theorem dX3_goodCases_122 : decode cX3_goodCases 122 = .ok (.invokestatic 111, 3) := by decide +kernel
theorem dX3_goodCases_125 : decode cX3_goodCases 125 = .ok (.lmul, 1) := by decide +kernel
theorem dX3_goodCases_126 : decode cX3_goodCases 126 = .ok (.iload_n 3, 1) := by decide +kernel
theorem dX3_goodCases_127 : decode cX3_goodCases 127 = .ok (.aload_n 1, 1) := by decide +kernel
theorem dX3_goodCases_128 : decode cX3_goodCases 128 = .ok (.getfield 99, 3) := by decide +kernel
theorem dX3_goodCases_131 : decode cX3_goodCases 131 = .ok (.iload 6, 2) := by decide +kernel
theorem dX3_goodCases_133 : decode cX3_goodCases 133 = .ok (.isub, 1) := by decide +kernel
theorem dX3_goodCases_134 : decode cX3_goodCases 134 = .ok (.invokestatic 111, 3) := by decide +kernel
theorem dX3_goodCases_137 : decode cX3_goodCases 137 = .ok (.lmul, 1) := by decide +kernel
theorem dX3_goodCases_138 : decode cX3_goodCases 138 = .ok (.ladd, 1) := by decide +kernel
theorem dX3_goodCases_139 : decode cX3_goodCases 139 = .ok (.lstore 4, 2) := by decide +kernel
theorem dX3_goodCases_141 : decode cX3_goodCases 141 = .ok (.iinc 6 1, 3) := by decide +kernel
theorem dX3_goodCases_144 : decode cX3_goodCases 144 = .ok (.goto (-47), 3) := by decide +kernel
theorem dX3_goodCases_147 : decode cX3_goodCases 147 = .ok (.lload 4, 2) := by decide +kernel
theorem dX3_goodCases_149 : decode cX3_goodCases 149 = .ok (.lreturn, 1) := by decide +kernel
theorem dX3_fewestFor_0 : decode cX3_fewestFor 0 = .ok (.iload_n 1, 1) := by decide +kernel
theorem dX3_fewestFor_1 : decode cX3_fewestFor 1 = .ok (.ifCond .ne 5, 3) := by decide +kernel
theorem dX3_fewestFor_4 : decode cX3_fewestFor 4 = .ok (.iconst 0, 1) := by decide +kernel
theorem dX3_fewestFor_5 : decode cX3_fewestFor 5 = .ok (.ireturn, 1) := by decide +kernel
theorem dX3_fewestFor_6 : decode cX3_fewestFor 6 = .ok (.iload_n 1, 1) := by decide +kernel
theorem dX3_fewestFor_7 : decode cX3_fewestFor 7 = .ok (.invokestatic 115, 3) := by decide +kernel
theorem dX3_fewestFor_10 : decode cX3_fewestFor 10 = .ok (.istore_n 2, 1) := by decide +kernel
theorem dX3_fewestFor_11 : decode cX3_fewestFor 11 = .ok (.iload_n 1, 1) := by decide +kernel
theorem dX3_fewestFor_12 : decode cX3_fewestFor 12 = .ok (.iload_n 1, 1) := by decide +kernel
theorem dX3_fewestFor_13 : decode cX3_fewestFor 13 = .ok (.iconst 1, 1) := by decide +kernel
theorem dX3_fewestFor_14 : decode cX3_fewestFor 14 = .ok (.isub, 1) := by decide +kernel
theorem dX3_fewestFor_15 : decode cX3_fewestFor 15 = .ok (.iand, 1) := by decide +kernel
theorem dX3_fewestFor_16 : decode cX3_fewestFor 16 = .ok (.istore_n 3, 1) := by decide +kernel
theorem dX3_fewestFor_17 : decode cX3_fewestFor 17 = .ok (.iload_n 3, 1) := by decide +kernel
theorem dX3_fewestFor_18 : decode cX3_fewestFor 18 = .ok (.aload_n 0, 1) := by decide +kernel
theorem dX3_fewestFor_19 : decode cX3_fewestFor 19 = .ok (.getfield 21, 3) := by decide +kernel
theorem dX3_fewestFor_22 : decode cX3_fewestFor 22 = .ok (.getfield 47, 3) := by decide +kernel
theorem dX3_fewestFor_25 : decode cX3_fewestFor 25 = .ok (.getfield 118, 3) := by decide +kernel
theorem dX3_fewestFor_28 : decode cX3_fewestFor 28 = .ok (.iload_n 2, 1) := by decide +kernel
theorem dX3_fewestFor_29 : decode cX3_fewestFor 29 = .ok (.iaload, 1) := by decide +kernel
theorem dX3_fewestFor_30 : decode cX3_fewestFor 30 = .ok (.iand, 1) := by decide +kernel
theorem dX3_fewestFor_31 : decode cX3_fewestFor 31 = .ok (.istore 4, 2) := by decide +kernel
theorem dX3_fewestFor_33 : decode cX3_fewestFor 33 = .ok (.iconst 1, 1) := by decide +kernel
theorem dX3_fewestFor_34 : decode cX3_fewestFor 34 = .ok (.aload_n 0, 1) := by decide +kernel
theorem dX3_fewestFor_35 : decode cX3_fewestFor 35 = .ok (.getfield 33, 3) := by decide +kernel
theorem dX3_fewestFor_38 : decode cX3_fewestFor 38 = .ok (.iload_n 3, 1) := by decide +kernel
theorem dX3_fewestFor_39 : decode cX3_fewestFor 39 = .ok (.iaload, 1) := by decide +kernel
theorem dX3_fewestFor_40 : decode cX3_fewestFor 40 = .ok (.iadd, 1) := by decide +kernel
theorem dX3_fewestFor_41 : decode cX3_fewestFor 41 = .ok (.istore 5, 2) := by decide +kernel
theorem dX3_fewestFor_43 : decode cX3_fewestFor 43 = .ok (.iload 4, 2) := by decide +kernel
theorem dX3_fewestFor_45 : decode cX3_fewestFor 45 = .ok (.istore 6, 2) := by decide +kernel
theorem dX3_fewestFor_47 : decode cX3_fewestFor 47 = .ok (.iload 6, 2) := by decide +kernel
theorem dX3_fewestFor_49 : decode cX3_fewestFor 49 = .ok (.ifCond .le 46, 3) := by decide +kernel
theorem dX3_fewestFor_52 : decode cX3_fewestFor 52 = .ok (.aload_n 0, 1) := by decide +kernel
theorem dX3_fewestFor_53 : decode cX3_fewestFor 53 = .ok (.getfield 33, 3) := by decide +kernel
theorem dX3_fewestFor_56 : decode cX3_fewestFor 56 = .ok (.iload 6, 2) := by decide +kernel
theorem dX3_fewestFor_58 : decode cX3_fewestFor 58 = .ok (.iaload, 1) := by decide +kernel
theorem dX3_fewestFor_59 : decode cX3_fewestFor 59 = .ok (.iconst 1, 1) := by decide +kernel
theorem dX3_fewestFor_60 : decode cX3_fewestFor 60 = .ok (.if_icmp .ne 23, 3) := by decide +kernel
theorem dX3_fewestFor_63 : decode cX3_fewestFor 63 = .ok (.iload 5, 2) := by decide +kernel
theorem dX3_fewestFor_65 : decode cX3_fewestFor 65 = .ok (.iconst 1, 1) := by decide +kernel
theorem dX3_fewestFor_66 : decode cX3_fewestFor 66 = .ok (.aload_n 0, 1) := by decide +kernel
theorem dX3_fewestFor_67 : decode cX3_fewestFor 67 = .ok (.getfield 33, 3) := by decide +kernel
theorem dX3_fewestFor_70 : decode cX3_fewestFor 70 = .ok (.iload_n 3, 1) := by decide +kernel
theorem dX3_fewestFor_71 : decode cX3_fewestFor 71 = .ok (.iload 6, 2) := by decide +kernel
theorem dX3_fewestFor_73 : decode cX3_fewestFor 73 = .ok (.iconst (-1), 1) := by decide +kernel
theorem dX3_fewestFor_74 : decode cX3_fewestFor 74 = .ok (.ixor, 1) := by decide +kernel
theorem dX3_fewestFor_75 : decode cX3_fewestFor 75 = .ok (.iand, 1) := by decide +kernel
theorem dX3_fewestFor_76 : decode cX3_fewestFor 76 = .ok (.iaload, 1) := by decide +kernel
theorem dX3_fewestFor_77 : decode cX3_fewestFor 77 = .ok (.iadd, 1) := by decide +kernel
theorem dX3_fewestFor_78 : decode cX3_fewestFor 78 = .ok (.invokestatic 121, 3) := by decide +kernel
theorem dX3_fewestFor_81 : decode cX3_fewestFor 81 = .ok (.istore 5, 2) := by decide +kernel
theorem dX3_fewestFor_83 : decode cX3_fewestFor 83 = .ok (.iload 6, 2) := by decide +kernel
theorem dX3_fewestFor_85 : decode cX3_fewestFor 85 = .ok (.iconst 1, 1) := by decide +kernel
theorem dX3_fewestFor_86 : decode cX3_fewestFor 86 = .ok (.isub, 1) := by decide +kernel
theorem dX3_fewestFor_87 : decode cX3_fewestFor 87 = .ok (.iload 4, 2) := by decide +kernel
theorem dX3_fewestFor_89 : decode cX3_fewestFor 89 = .ok (.iand, 1) := by decide +kernel
theorem dX3_fewestFor_90 : decode cX3_fewestFor 90 = .ok (.istore 6, 2) := by decide +kernel
theorem dX3_fewestFor_92 : decode cX3_fewestFor 92 = .ok (.goto (-45), 3) := by decide +kernel
theorem dX3_fewestFor_95 : decode cX3_fewestFor 95 = .ok (.iload 5, 2) := by decide +kernel
theorem dX3_fewestFor_97 : decode cX3_fewestFor 97 = .ok (.ireturn, 1) := by decide +kernel
theorem dX3_draw_0 : decode cX3_draw 0 = .ok (.aload_n 0, 1) := by decide +kernel
theorem dX3_draw_1 : decode cX3_draw 1 = .ok (.getfield 12, 3) := by decide +kernel
theorem dX3_draw_4 : decode cX3_draw 4 = .ok (.aload_n 1, 1) := by decide +kernel
theorem dX3_draw_5 : decode cX3_draw 5 = .ok (.invokevirtual 39, 3) := by decide +kernel
theorem dX3_draw_8 : decode cX3_draw 8 = .ok (.aload_n 0, 1) := by decide +kernel
theorem dX3_draw_9 : decode cX3_draw 9 = .ok (.getfield 21, 3) := by decide +kernel
theorem dX3_draw_12 : decode cX3_draw 12 = .ok (.getfield 47, 3) := by decide +kernel
theorem dX3_draw_15 : decode cX3_draw 15 = .ok (.aload_n 0, 1) := by decide +kernel
theorem dX3_draw_16 : decode cX3_draw 16 = .ok (.getfield 12, 3) := by decide +kernel
theorem dX3_draw_19 : decode cX3_draw 19 = .ok (.invokevirtual 51, 3) := by decide +kernel
theorem dX3_draw_22 : decode cX3_draw 22 = .ok (.aload_n 0, 1) := by decide +kernel
theorem dX3_draw_23 : decode cX3_draw 23 = .ok (.getfield 12, 3) := by decide +kernel
theorem dX3_draw_26 : decode cX3_draw 26 = .ok (.getfield 99, 3) := by decide +kernel
theorem dX3_draw_29 : decode cX3_draw 29 = .ok (.iconst 1, 1) := by decide +kernel
theorem dX3_draw_30 : decode cX3_draw 30 = .ok (.if_icmp .ge 5, 3) := by decide +kernel
theorem dX3_draw_33 : decode cX3_draw 33 = .ok (.iconst 0, 1) := by decide +kernel
theorem dX3_draw_34 : decode cX3_draw 34 = .ok (.ireturn, 1) := by decide +kernel
theorem dX3_draw_35 : decode cX3_draw 35 = .ok (.iload_n 3, 1) := by decide +kernel
theorem dX3_draw_36 : decode cX3_draw 36 = .ok (.i2l, 1) := by decide +kernel
theorem dX3_draw_37 : decode cX3_draw 37 = .ok (.lstore 4, 2) := by decide +kernel
theorem dX3_draw_39 : decode cX3_draw 39 = .ok (.iconst 0, 1) := by decide +kernel
theorem dX3_draw_40 : decode cX3_draw 40 = .ok (.istore 6, 2) := by decide +kernel
theorem dX3_draw_42 : decode cX3_draw 42 = .ok (.iconst 0, 1) := by decide +kernel
theorem dX3_draw_43 : decode cX3_draw 43 = .ok (.istore 7, 2) := by decide +kernel
theorem dX3_draw_45 : decode cX3_draw 45 = .ok (.iload 7, 2) := by decide +kernel
theorem dX3_draw_47 : decode cX3_draw 47 = .ok (.iload_n 2, 1) := by decide +kernel
theorem dX3_draw_48 : decode cX3_draw 48 = .ok (.if_icmp .ge 114, 3) := by decide +kernel
theorem dX3_draw_51 : decode cX3_draw 51 = .ok (.lload 4, 2) := by decide +kernel
theorem dX3_draw_53 : decode cX3_draw 53 = .ok (.ldc2_w 127, 3) := by decide +kernel
theorem dX3_draw_56 : decode cX3_draw 56 = .ok (.lmul, 1) := by decide +kernel
theorem dX3_draw_57 : decode cX3_draw 57 = .ok (.ldc2_w 129, 3) := by decide +kernel
theorem dX3_draw_60 : decode cX3_draw 60 = .ok (.lrem, 1) := by decide +kernel
theorem dX3_draw_61 : decode cX3_draw 61 = .ok (.lstore 4, 2) := by decide +kernel
theorem dX3_draw_63 : decode cX3_draw 63 = .ok (.lload 4, 2) := by decide +kernel
theorem dX3_draw_65 : decode cX3_draw 65 = .ok (.aload_n 0, 1) := by decide +kernel
theorem dX3_draw_66 : decode cX3_draw 66 = .ok (.getfield 12, 3) := by decide +kernel
theorem dX3_draw_69 : decode cX3_draw 69 = .ok (.getfield 99, 3) := by decide +kernel
theorem dX3_draw_72 : decode cX3_draw 72 = .ok (.i2l, 1) := by decide +kernel
theorem dX3_draw_73 : decode cX3_draw 73 = .ok (.lrem, 1) := by decide +kernel
theorem dX3_draw_74 : decode cX3_draw 74 = .ok (.l2i, 1) := by decide +kernel
theorem dX3_draw_75 : decode cX3_draw 75 = .ok (.istore 8, 2) := by decide +kernel
theorem dX3_draw_77 : decode cX3_draw 77 = .ok (.lload 4, 2) := by decide +kernel
theorem dX3_draw_79 : decode cX3_draw 79 = .ok (.ldc2_w 131, 3) := by decide +kernel
theorem dX3_draw_82 : decode cX3_draw 82 = .ok (.ldiv, 1) := by decide +kernel
theorem dX3_draw_83 : decode cX3_draw 83 = .ok (.ldc2_w 133, 3) := by decide +kernel
theorem dX3_draw_86 : decode cX3_draw 86 = .ok (.lrem, 1) := by decide +kernel
theorem dX3_draw_87 : decode cX3_draw 87 = .ok (.l2i, 1) := by decide +kernel
theorem dX3_draw_88 : decode cX3_draw 88 = .ok (.istore 9, 2) := by decide +kernel
theorem dX3_draw_90 : decode cX3_draw 90 = .ok (.aload_n 0, 1) := by decide +kernel
theorem dX3_draw_91 : decode cX3_draw 91 = .ok (.getfield 12, 3) := by decide +kernel
theorem dX3_draw_94 : decode cX3_draw 94 = .ok (.getfield 86, 3) := by decide +kernel
theorem dX3_draw_97 : decode cX3_draw 97 = .ok (.iload 9, 2) := by decide +kernel
theorem dX3_draw_99 : decode cX3_draw 99 = .ok (.aaload, 1) := by decide +kernel
theorem dX3_draw_100 : decode cX3_draw 100 = .ok (.iload 8, 2) := by decide +kernel
theorem dX3_draw_102 : decode cX3_draw 102 = .ok (.lload 4, 2) := by decide +kernel
theorem dX3_draw_104 : decode cX3_draw 104 = .ok (.ldc2_w 135, 3) := by decide +kernel
theorem dX3_draw_107 : decode cX3_draw 107 = .ok (.ldiv, 1) := by decide +kernel
theorem dX3_draw_108 : decode cX3_draw 108 = .ok (.ldc2_w 137, 3) := by decide +kernel
theorem dX3_draw_111 : decode cX3_draw 111 = .ok (.lrem, 1) := by decide +kernel
theorem dX3_draw_112 : decode cX3_draw 112 = .ok (.l2i, 1) := by decide +kernel
theorem dX3_draw_113 : decode cX3_draw 113 = .ok (.iastore, 1) := by decide +kernel
theorem dX3_draw_114 : decode cX3_draw 114 = .ok (.aload_n 0, 1) := by decide +kernel
theorem dX3_draw_115 : decode cX3_draw 115 = .ok (.getfield 21, 3) := by decide +kernel
theorem dX3_draw_118 : decode cX3_draw 118 = .ok (.getfield 47, 3) := by decide +kernel
theorem dX3_draw_121 : decode cX3_draw 121 = .ok (.aload_n 0, 1) := by decide +kernel
theorem dX3_draw_122 : decode cX3_draw 122 = .ok (.getfield 12, 3) := by decide +kernel
theorem dX3_draw_125 : decode cX3_draw 125 = .ok (.iload 8, 2) := by decide +kernel
theorem dX3_draw_127 : decode cX3_draw 127 = .ok (.invokevirtual 82, 3) := by decide +kernel
theorem dX3_draw_130 : decode cX3_draw 130 = .ok (.aload_n 0, 1) := by decide +kernel
theorem dX3_draw_131 : decode cX3_draw 131 = .ok (.getfield 21, 3) := by decide +kernel
theorem dX3_draw_134 : decode cX3_draw 134 = .ok (.aload_n 0, 1) := by decide +kernel
theorem dX3_draw_135 : decode cX3_draw 135 = .ok (.getfield 12, 3) := by decide +kernel
theorem dX3_draw_138 : decode cX3_draw 138 = .ok (.getfield 56, 3) := by decide +kernel
theorem dX3_draw_141 : decode cX3_draw 141 = .ok (.invokevirtual 59, 3) := by decide +kernel
theorem dX3_draw_144 : decode cX3_draw 144 = .ok (.iload 6, 2) := by decide +kernel
theorem dX3_draw_146 : decode cX3_draw 146 = .ok (.aload_n 0, 1) := by decide +kernel
theorem dX3_draw_147 : decode cX3_draw 147 = .ok (.getfield 21, 3) := by decide +kernel
theorem dX3_draw_150 : decode cX3_draw 150 = .ok (.getfield 62, 3) := by decide +kernel
theorem dX3_draw_153 : decode cX3_draw 153 = .ok (.iadd, 1) := by decide +kernel
theorem dX3_draw_154 : decode cX3_draw 154 = .ok (.istore 6, 2) := by decide +kernel
theorem dX3_draw_156 : decode cX3_draw 156 = .ok (.iinc 7 1, 3) := by decide +kernel
theorem dX3_draw_159 : decode cX3_draw 159 = .ok (.goto (-114), 3) := by decide +kernel
theorem dX3_draw_162 : decode cX3_draw 162 = .ok (.iload 6, 2) := by decide +kernel
theorem dX3_draw_164 : decode cX3_draw 164 = .ok (.ireturn, 1) := by decide +kernel
theorem dX3_spreadOfAll_0 : decode cX3_spreadOfAll 0 = .ok (.aload_n 0, 1) := by decide +kernel
theorem dX3_spreadOfAll_1 : decode cX3_spreadOfAll 1 = .ok (.getfield 21, 3) := by decide +kernel
theorem dX3_spreadOfAll_4 : decode cX3_spreadOfAll 4 = .ok (.getfield 47, 3) := by decide +kernel
theorem dX3_spreadOfAll_7 : decode cX3_spreadOfAll 7 = .ok (.iconst 1, 1) := by decide +kernel
theorem dX3_spreadOfAll_8 : decode cX3_spreadOfAll 8 = .ok (.aload_n 0, 1) := by decide +kernel
theorem dX3_spreadOfAll_9 : decode cX3_spreadOfAll 9 = .ok (.getfield 12, 3) := by decide +kernel
theorem dX3_spreadOfAll_12 : decode cX3_spreadOfAll 12 = .ok (.getfield 99, 3) := by decide +kernel
theorem dX3_spreadOfAll_15 : decode cX3_spreadOfAll 15 = .ok (.ishl, 1) := by decide +kernel
theorem dX3_spreadOfAll_16 : decode cX3_spreadOfAll 16 = .ok (.iconst 1, 1) := by decide +kernel
theorem dX3_spreadOfAll_17 : decode cX3_spreadOfAll 17 = .ok (.isub, 1) := by decide +kernel
theorem dX3_spreadOfAll_18 : decode cX3_spreadOfAll 18 = .ok (.invokevirtual 139, 3) := by decide +kernel
theorem dX3_spreadOfAll_21 : decode cX3_spreadOfAll 21 = .ok (.ireturn, 1) := by decide +kernel
theorem dX4_init_0 : decode cX4_init 0 = .ok (.aload_n 0, 1) := by decide +kernel
theorem dX4_init_1 : decode cX4_init 1 = .ok (.invokespecial 3, 3) := by decide +kernel
theorem dX4_init_4 : decode cX4_init 4 = .ok (.aload_n 0, 1) := by decide +kernel
theorem dX4_init_5 : decode cX4_init 5 = .ok (.new 9, 3) := by decide +kernel
theorem dX4_init_8 : decode cX4_init 8 = .ok (.dup, 1) := by decide +kernel
theorem dX4_init_9 : decode cX4_init 9 = .ok (.invokespecial 11, 3) := by decide +kernel
theorem dX4_init_12 : decode cX4_init 12 = .ok (.putfield 12, 3) := by decide +kernel
theorem dX4_init_15 : decode cX4_init 15 = .ok (.aload_n 0, 1) := by decide +kernel
theorem dX4_init_16 : decode cX4_init 16 = .ok (.new 18, 3) := by decide +kernel
theorem dX4_init_19 : decode cX4_init 19 = .ok (.dup, 1) := by decide +kernel
theorem dX4_init_20 : decode cX4_init 20 = .ok (.invokespecial 20, 3) := by decide +kernel
theorem dX4_init_23 : decode cX4_init 23 = .ok (.putfield 21, 3) := by decide +kernel
theorem dX4_init_26 : decode cX4_init 26 = .ok (.aload_n 0, 1) := by decide +kernel
theorem dX4_init_27 : decode cX4_init 27 = .ok (.bipush 10, 2) := by decide +kernel
theorem dX4_init_29 : decode cX4_init 29 = .ok (.newarray .int, 2) := by decide +kernel
theorem dX4_init_31 : decode cX4_init 31 = .ok (.putfield 25, 3) := by decide +kernel
theorem dX4_init_34 : decode cX4_init 34 = .ok (.aload_n 0, 1) := by decide +kernel
theorem dX4_init_35 : decode cX4_init 35 = .ok (.bipush 10, 2) := by decide +kernel
theorem dX4_init_37 : decode cX4_init 37 = .ok (.bipush 10, 2) := by decide +kernel
theorem dX4_init_39 : decode cX4_init 39 = .ok (.multianewarray 29 2, 4) := by decide +kernel
theorem dX4_init_43 : decode cX4_init 43 = .ok (.putfield 31, 3) := by decide +kernel
theorem dX4_init_46 : decode cX4_init 46 = .ok (.aload_n 0, 1) := by decide +kernel
theorem dX4_init_47 : decode cX4_init 47 = .ok (.iconst 0, 1) := by decide +kernel
theorem dX4_init_48 : decode cX4_init 48 = .ok (.putfield 34, 3) := by decide +kernel
theorem dX4_init_51 : decode cX4_init 51 = .ok (.aload_n 0, 1) := by decide +kernel
theorem dX4_init_52 : decode cX4_init 52 = .ok (.iconst 0, 1) := by decide +kernel
theorem dX4_init_53 : decode cX4_init 53 = .ok (.putfield 38, 3) := by decide +kernel
theorem dX4_init_56 : decode cX4_init 56 = .ok (.aload_n 0, 1) := by decide +kernel
theorem dX4_init_57 : decode cX4_init 57 = .ok (.bipush 64, 2) := by decide +kernel
theorem dX4_init_59 : decode cX4_init 59 = .ok (.newarray .int, 2) := by decide +kernel
theorem dX4_init_61 : decode cX4_init 61 = .ok (.putfield 41, 3) := by decide +kernel
theorem dX4_init_64 : decode cX4_init 64 = .ok (.aload_n 0, 1) := by decide +kernel
theorem dX4_init_65 : decode cX4_init 65 = .ok (.iconst 0, 1) := by decide +kernel
theorem dX4_init_66 : decode cX4_init 66 = .ok (.putfield 44, 3) := by decide +kernel
theorem dX4_init_69 : decode cX4_init 69 = .ok (.return_, 1) := by decide +kernel
theorem dX4_lookAt_0 : decode cX4_lookAt 0 = .ok (.aload_n 0, 1) := by decide +kernel
theorem dX4_lookAt_1 : decode cX4_lookAt 1 = .ok (.getfield 12, 3) := by decide +kernel
theorem dX4_lookAt_4 : decode cX4_lookAt 4 = .ok (.getfield 47, 3) := by decide +kernel
theorem dX4_lookAt_7 : decode cX4_lookAt 7 = .ok (.aload_n 1, 1) := by decide +kernel
theorem dX4_lookAt_8 : decode cX4_lookAt 8 = .ok (.invokevirtual 51, 3) := by decide +kernel
theorem dX4_lookAt_11 : decode cX4_lookAt 11 = .ok (.aload_n 0, 1) := by decide +kernel
theorem dX4_lookAt_12 : decode cX4_lookAt 12 = .ok (.getfield 12, 3) := by decide +kernel
theorem dX4_lookAt_15 : decode cX4_lookAt 15 = .ok (.aload_n 1, 1) := by decide +kernel
theorem dX4_lookAt_16 : decode cX4_lookAt 16 = .ok (.getfield 57, 3) := by decide +kernel
theorem dX4_lookAt_19 : decode cX4_lookAt 19 = .ok (.invokevirtual 62, 3) := by decide +kernel
theorem dX4_lookAt_22 : decode cX4_lookAt 22 = .ok (.aload_n 0, 1) := by decide +kernel
theorem dX4_lookAt_23 : decode cX4_lookAt 23 = .ok (.getfield 21, 3) := by decide +kernel
theorem dX4_lookAt_26 : decode cX4_lookAt 26 = .ok (.aload_n 0, 1) := by decide +kernel
theorem dX4_lookAt_27 : decode cX4_lookAt 27 = .ok (.getfield 12, 3) := by decide +kernel
theorem dX4_lookAt_30 : decode cX4_lookAt 30 = .ok (.getfield 47, 3) := by decide +kernel
theorem dX4_lookAt_33 : decode cX4_lookAt 33 = .ok (.aload_n 1, 1) := by decide +kernel
theorem dX4_lookAt_34 : decode cX4_lookAt 34 = .ok (.getfield 66, 3) := by decide +kernel
theorem dX4_lookAt_37 : decode cX4_lookAt 37 = .ok (.invokevirtual 69, 3) := by decide +kernel
theorem dX4_lookAt_40 : decode cX4_lookAt 40 = .ok (.aload_n 0, 1) := by decide +kernel
theorem dX4_lookAt_41 : decode cX4_lookAt 41 = .ok (.aload_n 1, 1) := by decide +kernel
theorem dX4_lookAt_42 : decode cX4_lookAt 42 = .ok (.getfield 73, 3) := by decide +kernel
theorem dX4_lookAt_45 : decode cX4_lookAt 45 = .ok (.aload_n 1, 1) := by decide +kernel
theorem dX4_lookAt_46 : decode cX4_lookAt 46 = .ok (.getfield 57, 3) := by decide +kernel
theorem dX4_lookAt_49 : decode cX4_lookAt 49 = .ok (.invokevirtual 76, 3) := by decide +kernel
theorem dX4_lookAt_52 : decode cX4_lookAt 52 = .ok (.aload_n 0, 1) := by decide +kernel
theorem dX4_lookAt_53 : decode cX4_lookAt 53 = .ok (.aload_n 1, 1) := by decide +kernel
theorem dX4_lookAt_54 : decode cX4_lookAt 54 = .ok (.getfield 73, 3) := by decide +kernel
theorem dX4_lookAt_57 : decode cX4_lookAt 57 = .ok (.invokevirtual 80, 3) := by decide +kernel
theorem dX4_lookAt_60 : decode cX4_lookAt 60 = .ok (.aload_n 0, 1) := by decide +kernel
theorem dX4_lookAt_61 : decode cX4_lookAt 61 = .ok (.aload_n 1, 1) := by decide +kernel
theorem dX4_lookAt_62 : decode cX4_lookAt 62 = .ok (.getfield 73, 3) := by decide +kernel
theorem dX4_lookAt_65 : decode cX4_lookAt 65 = .ok (.invokevirtual 83, 3) := by decide +kernel
theorem dX4_lookAt_68 : decode cX4_lookAt 68 = .ok (.return_, 1) := by decide +kernel
theorem dX4_join_0 : decode cX4_join 0 = .ok (.iconst 0, 1) := by decide +kernel
theorem dX4_join_1 : decode cX4_join 1 = .ok (.istore_n 3, 1) := by decide +kernel
theorem dX4_join_2 : decode cX4_join 2 = .ok (.iload_n 3, 1) := by decide +kernel
theorem dX4_join_3 : decode cX4_join 3 = .ok (.iload_n 1, 1) := by decide +kernel
theorem dX4_join_4 : decode cX4_join 4 = .ok (.if_icmp .ge 41, 3) := by decide +kernel
theorem dX4_join_7 : decode cX4_join 7 = .ok (.aload_n 0, 1) := by decide +kernel
theorem dX4_join_8 : decode cX4_join 8 = .ok (.getfield 25, 3) := by decide +kernel
theorem dX4_join_11 : decode cX4_join 11 = .ok (.iload_n 3, 1) := by decide +kernel
theorem dX4_join_12 : decode cX4_join 12 = .ok (.iload_n 3, 1) := by decide +kernel
theorem dX4_join_13 : decode cX4_join 13 = .ok (.iastore, 1) := by decide +kernel
theorem dX4_join_14 : decode cX4_join 14 = .ok (.aload_n 0, 1) := by decide +kernel
theorem dX4_join_15 : decode cX4_join 15 = .ok (.getfield 12, 3) := by decide +kernel
theorem dX4_join_18 : decode cX4_join 18 = .ok (.getfield 47, 3) := by decide +kernel
theorem dX4_join_21 : decode cX4_join 21 = .ok (.getfield 86, 3) := by decide +kernel
theorem dX4_join_24 : decode cX4_join 24 = .ok (.iload_n 3, 1) := by decide +kernel
theorem dX4_join_25 : decode cX4_join 25 = .ok (.aaload, 1) := by decide +kernel
theorem dX4_join_26 : decode cX4_join 26 = .ok (.iconst 0, 1) := by decide +kernel
theorem dX4_join_27 : decode cX4_join 27 = .ok (.aload_n 0, 1) := by decide +kernel
theorem dX4_join_28 : decode cX4_join 28 = .ok (.getfield 31, 3) := by decide +kernel
theorem dX4_join_31 : decode cX4_join 31 = .ok (.iload_n 3, 1) := by decide +kernel
theorem dX4_join_32 : decode cX4_join 32 = .ok (.aaload, 1) := by decide +kernel
theorem dX4_join_33 : decode cX4_join 33 = .ok (.iconst 0, 1) := by decide +kernel
theorem dX4_join_34 : decode cX4_join 34 = .ok (.bipush 10, 2) := by decide +kernel
theorem dX4_join_36 : decode cX4_join 36 = .ok (.invokestatic 89, 3) := by decide +kernel
theorem dX4_join_39 : decode cX4_join 39 = .ok (.iinc 3 1, 3) := by decide +kernel
theorem dX4_join_42 : decode cX4_join 42 = .ok (.goto (-40), 3) := by decide +kernel
theorem dX4_join_45 : decode cX4_join 45 = .ok (.aload_n 0, 1) := by decide +kernel
theorem dX4_join_46 : decode cX4_join 46 = .ok (.iload_n 1, 1) := by decide +kernel
theorem dX4_join_47 : decode cX4_join 47 = .ok (.putfield 34, 3) := by decide +kernel
theorem dX4_join_50 : decode cX4_join 50 = .ok (.iconst 1, 1) := by decide +kernel
theorem dX4_join_51 : decode cX4_join 51 = .ok (.istore_n 3, 1) := by decide +kernel
theorem dX4_join_52 : decode cX4_join 52 = .ok (.iload_n 3, 1) := by decide +kernel
theorem dX4_join_53 : decode cX4_join 53 = .ok (.iload_n 1, 1) := by decide +kernel
theorem dX4_join_54 : decode cX4_join 54 = .ok (.if_icmp .ge 19, 3) := by decide +kernel
theorem dX4_join_57 : decode cX4_join 57 = .ok (.aload_n 0, 1) := by decide +kernel
theorem dX4_join_58 : decode cX4_join 58 = .ok (.iload_n 1, 1) := by decide +kernel
theorem dX4_join_59 : decode cX4_join 59 = .ok (.iload_n 2, 1) := by decide +kernel
theorem dX4_join_60 : decode cX4_join 60 = .ok (.invokevirtual 95, 3) := by decide +kernel
theorem dX4_join_63 : decode cX4_join 63 = .ok (.ifCond .ne 4, 3) := by decide +kernel
theorem dX4_join_66 : decode cX4_join 66 = .ok (.return_, 1) := by decide +kernel
theorem dX4_join_67 : decode cX4_join 67 = .ok (.iinc 3 1, 3) := by decide +kernel
theorem dX4_join_70 : decode cX4_join 70 = .ok (.goto (-18), 3) := by decide +kernel
theorem dX4_join_73 : decode cX4_join 73 = .ok (.return_, 1) := by decide +kernel
theorem dX4_joinsOnce_0 : decode cX4_joinsOnce 0 = .ok (.ldc 99, 2) := by decide +kernel
theorem dX4_joinsOnce_2 : decode cX4_joinsOnce 2 = .ok (.istore_n 3, 1) := by decide +kernel
theorem dX4_joinsOnce_3 : decode cX4_joinsOnce 3 = .ok (.ldc 99, 2) := by decide +kernel
theorem dX4_joinsOnce_5 : decode cX4_joinsOnce 5 = .ok (.istore 4, 2) := by decide +kernel
theorem dX4_joinsOnce_7 : decode cX4_joinsOnce 7 = .ok (.iload_n 2, 1) := by decide +kernel
theorem dX4_joinsOnce_8 : decode cX4_joinsOnce 8 = .ok (.iconst 1, 1) := by decide +kernel
theorem dX4_joinsOnce_9 : decode cX4_joinsOnce 9 = .ok (.iadd, 1) := by decide +kernel
theorem dX4_joinsOnce_10 : decode cX4_joinsOnce 10 = .ok (.istore 5, 2) := by decide +kernel
theorem dX4_joinsOnce_12 : decode cX4_joinsOnce 12 = .ok (.iconst 0, 1) := by decide +kernel
theorem dX4_joinsOnce_13 : decode cX4_joinsOnce 13 = .ok (.istore 6, 2) := by decide +kernel
theorem dX4_joinsOnce_15 : decode cX4_joinsOnce 15 = .ok (.iload 6, 2) := by decide +kernel
theorem dX4_joinsOnce_17 : decode cX4_joinsOnce 17 = .ok (.iload_n 1, 1) := by decide +kernel
theorem dX4_joinsOnce_18 : decode cX4_joinsOnce 18 = .ok (.if_icmp .ge 85, 3) := by decide +kernel
theorem dX4_joinsOnce_21 : decode cX4_joinsOnce 21 = .ok (.iload 6, 2) := by decide +kernel
theorem dX4_joinsOnce_23 : decode cX4_joinsOnce 23 = .ok (.iconst 1, 1) := by decide +kernel
theorem dX4_joinsOnce_24 : decode cX4_joinsOnce 24 = .ok (.iadd, 1) := by decide +kernel
theorem dX4_joinsOnce_25 : decode cX4_joinsOnce 25 = .ok (.istore 7, 2) := by decide +kernel
theorem dX4_joinsOnce_27 : decode cX4_joinsOnce 27 = .ok (.iload 7, 2) := by decide +kernel
theorem dX4_joinsOnce_29 : decode cX4_joinsOnce 29 = .ok (.iload_n 1, 1) := by decide +kernel
theorem dX4_joinsOnce_30 : decode cX4_joinsOnce 30 = .ok (.if_icmp .ge 67, 3) := by decide +kernel
theorem dX4_joinsOnce_33 : decode cX4_joinsOnce 33 = .ok (.aload_n 0, 1) := by decide +kernel
theorem dX4_joinsOnce_34 : decode cX4_joinsOnce 34 = .ok (.getfield 25, 3) := by decide +kernel
theorem dX4_joinsOnce_37 : decode cX4_joinsOnce 37 = .ok (.iload 6, 2) := by decide +kernel
theorem dX4_joinsOnce_39 : decode cX4_joinsOnce 39 = .ok (.iaload, 1) := by decide +kernel
theorem dX4_joinsOnce_40 : decode cX4_joinsOnce 40 = .ok (.iload 6, 2) := by decide +kernel
theorem dX4_joinsOnce_42 : decode cX4_joinsOnce 42 = .ok (.if_icmp .ne 49, 3) := by decide +kernel
theorem dX4_joinsOnce_45 : decode cX4_joinsOnce 45 = .ok (.aload_n 0, 1) := by decide +kernel
theorem dX4_joinsOnce_46 : decode cX4_joinsOnce 46 = .ok (.getfield 25, 3) := by decide +kernel
theorem dX4_joinsOnce_49 : decode cX4_joinsOnce 49 = .ok (.iload 7, 2) := by decide +kernel
theorem dX4_joinsOnce_51 : decode cX4_joinsOnce 51 = .ok (.iaload, 1) := by decide +kernel
theorem dX4_joinsOnce_52 : decode cX4_joinsOnce 52 = .ok (.iload 7, 2) := by decide +kernel
theorem dX4_joinsOnce_54 : decode cX4_joinsOnce 54 = .ok (.if_icmp .ne 37, 3) := by decide +kernel
theorem dX4_joinsOnce_57 : decode cX4_joinsOnce 57 = .ok (.aload_n 0, 1) := by decide +kernel
theorem dX4_joinsOnce_58 : decode cX4_joinsOnce 58 = .ok (.getfield 31, 3) := by decide +kernel
theorem dX4_joinsOnce_61 : decode cX4_joinsOnce 61 = .ok (.iload 6, 2) := by decide +kernel
theorem dX4_joinsOnce_63 : decode cX4_joinsOnce 63 = .ok (.aaload, 1) := by decide +kernel
theorem dX4_joinsOnce_64 : decode cX4_joinsOnce 64 = .ok (.iload 7, 2) := by decide +kernel
theorem dX4_joinsOnce_66 : decode cX4_joinsOnce 66 = .ok (.iaload, 1) := by decide +kernel
theorem dX4_joinsOnce_67 : decode cX4_joinsOnce 67 = .ok (.iload 5, 2) := by decide +kernel
theorem dX4_joinsOnce_69 : decode cX4_joinsOnce 69 = .ok (.if_icmp .ge 22, 3) := by decide +kernel
theorem dX4_joinsOnce_72 : decode cX4_joinsOnce 72 = .ok (.iload 6, 2) := by decide +kernel
theorem dX4_joinsOnce_74 : decode cX4_joinsOnce 74 = .ok (.istore_n 3, 1) := by decide +kernel
theorem dX4_joinsOnce_75 : decode cX4_joinsOnce 75 = .ok (.iload 7, 2) := by decide +kernel
theorem dX4_joinsOnce_77 : decode cX4_joinsOnce 77 = .ok (.istore 4, 2) := by decide +kernel
theorem dX4_joinsOnce_79 : decode cX4_joinsOnce 79 = .ok (.aload_n 0, 1) := by decide +kernel
theorem dX4_joinsOnce_80 : decode cX4_joinsOnce 80 = .ok (.getfield 31, 3) := by decide +kernel
theorem dX4_joinsOnce_83 : decode cX4_joinsOnce 83 = .ok (.iload 6, 2) := by decide +kernel
theorem dX4_joinsOnce_85 : decode cX4_joinsOnce 85 = .ok (.aaload, 1) := by decide +kernel
theorem dX4_joinsOnce_86 : decode cX4_joinsOnce 86 = .ok (.iload 7, 2) := by decide +kernel
theorem dX4_joinsOnce_88 : decode cX4_joinsOnce 88 = .ok (.iaload, 1) := by decide +kernel
theorem dX4_joinsOnce_89 : decode cX4_joinsOnce 89 = .ok (.istore 5, 2) := by decide +kernel
theorem dX4_joinsOnce_91 : decode cX4_joinsOnce 91 = .ok (.iinc 7 1, 3) := by decide +kernel
theorem dX4_joinsOnce_94 : decode cX4_joinsOnce 94 = .ok (.goto (-67), 3) := by decide +kernel
theorem dX4_joinsOnce_97 : decode cX4_joinsOnce 97 = .ok (.iinc 6 1, 3) := by decide +kernel
theorem dX4_joinsOnce_100 : decode cX4_joinsOnce 100 = .ok (.goto (-85), 3) := by decide +kernel
theorem dX4_joinsOnce_103 : decode cX4_joinsOnce 103 = .ok (.iload_n 3, 1) := by decide +kernel
theorem dX4_joinsOnce_104 : decode cX4_joinsOnce 104 = .ok (.ifCond .lt 8, 3) := by decide +kernel
theorem dX4_joinsOnce_107 : decode cX4_joinsOnce 107 = .ok (.iload 4, 2) := by decide +kernel
theorem dX4_joinsOnce_109 : decode cX4_joinsOnce 109 = .ok (.ifCond .ge 5, 3) := by decide +kernel
theorem dX4_joinsOnce_112 : decode cX4_joinsOnce 112 = .ok (.iconst 0, 1) := by decide +kernel
theorem dX4_joinsOnce_113 : decode cX4_joinsOnce 113 = .ok (.ireturn, 1) := by decide +kernel
theorem dX4_joinsOnce_114 : decode cX4_joinsOnce 114 = .ok (.aload_n 0, 1) := by decide +kernel
theorem dX4_joinsOnce_115 : decode cX4_joinsOnce 115 = .ok (.iload_n 1, 1) := by decide +kernel
theorem dX4_joinsOnce_116 : decode cX4_joinsOnce 116 = .ok (.iload_n 3, 1) := by decide +kernel
theorem dX4_joinsOnce_117 : decode cX4_joinsOnce 117 = .ok (.iload 4, 2) := by decide +kernel
theorem dX4_joinsOnce_119 : decode cX4_joinsOnce 119 = .ok (.invokevirtual 100, 3) := by decide +kernel
theorem dX4_joinsOnce_122 : decode cX4_joinsOnce 122 = .ok (.iconst 1, 1) := by decide +kernel
theorem dX4_joinsOnce_123 : decode cX4_joinsOnce 123 = .ok (.ireturn, 1) := by decide +kernel
theorem dX4_unite_0 : decode cX4_unite 0 = .ok (.aload_n 0, 1) := by decide +kernel
theorem dX4_unite_1 : decode cX4_unite 1 = .ok (.dup, 1) := by decide +kernel
theorem dX4_unite_2 : decode cX4_unite 2 = .ok (.getfield 34, 3) := by decide +kernel
theorem dX4_unite_5 : decode cX4_unite 5 = .ok (.iconst 1, 1) := by decide +kernel
theorem dX4_unite_6 : decode cX4_unite 6 = .ok (.isub, 1) := by decide +kernel
theorem dX4_unite_7 : decode cX4_unite 7 = .ok (.putfield 34, 3) := by decide +kernel
theorem dX4_unite_10 : decode cX4_unite 10 = .ok (.iconst 0, 1) := by decide +kernel
theorem dX4_unite_11 : decode cX4_unite 11 = .ok (.istore 4, 2) := by decide +kernel
theorem dX4_unite_13 : decode cX4_unite 13 = .ok (.iload 4, 2) := by decide +kernel
theorem dX4_unite_15 : decode cX4_unite 15 = .ok (.iload_n 1, 1) := by decide +kernel
theorem dX4_unite_16 : decode cX4_unite 16 = .ok (.if_icmp .ge 28, 3) := by decide +kernel
theorem dX4_unite_19 : decode cX4_unite 19 = .ok (.aload_n 0, 1) := by decide +kernel
theorem dX4_unite_20 : decode cX4_unite 20 = .ok (.getfield 25, 3) := by decide +kernel
theorem dX4_unite_23 : decode cX4_unite 23 = .ok (.iload 4, 2) := by decide +kernel
theorem dX4_unite_25 : decode cX4_unite 25 = .ok (.iaload, 1) := by decide +kernel
theorem dX4_unite_26 : decode cX4_unite 26 = .ok (.iload_n 3, 1) := by decide +kernel
theorem dX4_unite_27 : decode cX4_unite 27 = .ok (.if_icmp .ne 11, 3) := by decide +kernel
theorem dX4_unite_30 : decode cX4_unite 30 = .ok (.aload_n 0, 1) := by decide +kernel
theorem dX4_unite_31 : decode cX4_unite 31 = .ok (.getfield 25, 3) := by decide +kernel
theorem dX4_unite_34 : decode cX4_unite 34 = .ok (.iload 4, 2) := by decide +kernel
theorem dX4_unite_36 : decode cX4_unite 36 = .ok (.iload_n 2, 1) := by decide +kernel
theorem dX4_unite_37 : decode cX4_unite 37 = .ok (.iastore, 1) := by decide +kernel
theorem dX4_unite_38 : decode cX4_unite 38 = .ok (.iinc 4 1, 3) := by decide +kernel
theorem dX4_unite_41 : decode cX4_unite 41 = .ok (.goto (-28), 3) := by decide +kernel
theorem dX4_unite_44 : decode cX4_unite 44 = .ok (.aload_n 0, 1) := by decide +kernel
theorem dX4_unite_45 : decode cX4_unite 45 = .ok (.getfield 31, 3) := by decide +kernel
theorem dX4_unite_48 : decode cX4_unite 48 = .ok (.iload_n 2, 1) := by decide +kernel
theorem dX4_unite_49 : decode cX4_unite 49 = .ok (.aaload, 1) := by decide +kernel
theorem dX4_unite_50 : decode cX4_unite 50 = .ok (.iload_n 3, 1) := by decide +kernel
theorem dX4_unite_51 : decode cX4_unite 51 = .ok (.iaload, 1) := by decide +kernel
theorem dX4_unite_52 : decode cX4_unite 52 = .ok (.istore 4, 2) := by decide +kernel
theorem dX4_unite_54 : decode cX4_unite 54 = .ok (.iconst 0, 1) := by decide +kernel
theorem dX4_unite_55 : decode cX4_unite 55 = .ok (.istore 5, 2) := by decide +kernel
theorem dX4_unite_57 : decode cX4_unite 57 = .ok (.iload 5, 2) := by decide +kernel
theorem dX4_unite_59 : decode cX4_unite 59 = .ok (.iload_n 1, 1) := by decide +kernel
theorem dX4_unite_60 : decode cX4_unite 60 = .ok (.if_icmp .ge 59, 3) := by decide +kernel
theorem dX4_unite_63 : decode cX4_unite 63 = .ok (.iload 4, 2) := by decide +kernel
theorem dX4_unite_65 : decode cX4_unite 65 = .ok (.aload_n 0, 1) := by decide +kernel
theorem dX4_unite_66 : decode cX4_unite 66 = .ok (.getfield 31, 3) := by decide +kernel
theorem dX4_unite_69 : decode cX4_unite 69 = .ok (.iload_n 2, 1) := by decide +kernel
theorem dX4_unite_70 : decode cX4_unite 70 = .ok (.aaload, 1) := by decide +kernel
theorem dX4_unite_71 : decode cX4_unite 71 = .ok (.iload 5, 2) := by decide +kernel
theorem dX4_unite_73 : decode cX4_unite 73 = .ok (.iaload, 1) := by decide +kernel
theorem dX4_unite_74 : decode cX4_unite 74 = .ok (.aload_n 0, 1) := by decide +kernel
theorem dX4_unite_75 : decode cX4_unite 75 = .ok (.getfield 31, 3) := by decide +kernel
theorem dX4_unite_78 : decode cX4_unite 78 = .ok (.iload_n 3, 1) := by decide +kernel
theorem dX4_unite_79 : decode cX4_unite 79 = .ok (.aaload, 1) := by decide +kernel
theorem dX4_unite_80 : decode cX4_unite 80 = .ok (.iload 5, 2) := by decide +kernel
theorem dX4_unite_82 : decode cX4_unite 82 = .ok (.iaload, 1) := by decide +kernel
theorem dX4_unite_83 : decode cX4_unite 83 = .ok (.invokestatic 104, 3) := by decide +kernel
theorem dX4_unite_86 : decode cX4_unite 86 = .ok (.invokestatic 104, 3) := by decide +kernel
theorem dX4_unite_89 : decode cX4_unite 89 = .ok (.istore 6, 2) := by decide +kernel
theorem dX4_unite_91 : decode cX4_unite 91 = .ok (.aload_n 0, 1) := by decide +kernel
theorem dX4_unite_92 : decode cX4_unite 92 = .ok (.getfield 31, 3) := by decide +kernel
theorem dX4_unite_95 : decode cX4_unite 95 = .ok (.iload_n 2, 1) := by decide +kernel
theorem dX4_unite_96 : decode cX4_unite 96 = .ok (.aaload, 1) := by decide +kernel
theorem dX4_unite_97 : decode cX4_unite 97 = .ok (.iload 5, 2) := by decide +kernel
theorem dX4_unite_99 : decode cX4_unite 99 = .ok (.iload 6, 2) := by decide +kernel
theorem dX4_unite_101 : decode cX4_unite 101 = .ok (.iastore, 1) := by decide +kernel
theorem dX4_unite_102 : decode cX4_unite 102 = .ok (.aload_n 0, 1) := by decide +kernel
theorem dX4_unite_103 : decode cX4_unite 103 = .ok (.getfield 31, 3) := by decide +kernel
theorem dX4_unite_106 : decode cX4_unite 106 = .ok (.iload 5, 2) := by decide +kernel
theorem dX4_unite_108 : decode cX4_unite 108 = .ok (.aaload, 1) := by decide +kernel
theorem dX4_unite_109 : decode cX4_unite 109 = .ok (.iload_n 2, 1) := by decide +kernel
theorem dX4_unite_110 : decode cX4_unite 110 = .ok (.iload 6, 2) := by decide +kernel
theorem dX4_unite_112 : decode cX4_unite 112 = .ok (.iastore, 1) := by decide +kernel
theorem dX4_unite_113 : decode cX4_unite 113 = .ok (.iinc 5 1, 3) := by decide +kernel
theorem dX4_unite_116 : decode cX4_unite 116 = .ok (.goto (-59), 3) := by decide +kernel
theorem dX4_unite_119 : decode cX4_unite 119 = .ok (.return_, 1) := by decide +kernel
theorem dX4_doubt_0 : decode cX4_doubt 0 = .ok (.aload_n 0, 1) := by decide +kernel
theorem dX4_doubt_1 : decode cX4_doubt 1 = .ok (.iconst 0, 1) := by decide +kernel
theorem dX4_doubt_2 : decode cX4_doubt 2 = .ok (.putfield 38, 3) := by decide +kernel
theorem dX4_doubt_5 : decode cX4_doubt 5 = .ok (.iconst 0, 1) := by decide +kernel
theorem dX4_doubt_6 : decode cX4_doubt 6 = .ok (.istore_n 2, 1) := by decide +kernel
theorem dX4_doubt_7 : decode cX4_doubt 7 = .ok (.iload_n 2, 1) := by decide +kernel
theorem dX4_doubt_8 : decode cX4_doubt 8 = .ok (.iload_n 1, 1) := by decide +kernel
theorem dX4_doubt_9 : decode cX4_doubt 9 = .ok (.if_icmp .ge 65, 3) := by decide +kernel
theorem dX4_doubt_12 : decode cX4_doubt 12 = .ok (.iconst 0, 1) := by decide +kernel
theorem dX4_doubt_13 : decode cX4_doubt 13 = .ok (.istore_n 3, 1) := by decide +kernel
theorem dX4_doubt_14 : decode cX4_doubt 14 = .ok (.iload_n 3, 1) := by decide +kernel
theorem dX4_doubt_15 : decode cX4_doubt 15 = .ok (.aload_n 0, 1) := by decide +kernel
theorem dX4_doubt_16 : decode cX4_doubt 16 = .ok (.getfield 12, 3) := by decide +kernel
theorem dX4_doubt_19 : decode cX4_doubt 19 = .ok (.getfield 110, 3) := by decide +kernel
theorem dX4_doubt_22 : decode cX4_doubt 22 = .ok (.if_icmp .ge 46, 3) := by decide +kernel
theorem dX4_doubt_25 : decode cX4_doubt 25 = .ok (.iload_n 3, 1) := by decide +kernel
theorem dX4_doubt_26 : decode cX4_doubt 26 = .ok (.aload_n 0, 1) := by decide +kernel
theorem dX4_doubt_27 : decode cX4_doubt 27 = .ok (.getfield 12, 3) := by decide +kernel
theorem dX4_doubt_30 : decode cX4_doubt 30 = .ok (.getfield 113, 3) := by decide +kernel
theorem dX4_doubt_33 : decode cX4_doubt 33 = .ok (.iload_n 2, 1) := by decide +kernel
theorem dX4_doubt_34 : decode cX4_doubt 34 = .ok (.iaload, 1) := by decide +kernel
theorem dX4_doubt_35 : decode cX4_doubt 35 = .ok (.if_icmp .eq 27, 3) := by decide +kernel
theorem dX4_doubt_38 : decode cX4_doubt 38 = .ok (.aload_n 0, 1) := by decide +kernel
theorem dX4_doubt_39 : decode cX4_doubt 39 = .ok (.getfield 12, 3) := by decide +kernel
theorem dX4_doubt_42 : decode cX4_doubt 42 = .ok (.iload_n 2, 1) := by decide +kernel
theorem dX4_doubt_43 : decode cX4_doubt 43 = .ok (.iload_n 3, 1) := by decide +kernel
theorem dX4_doubt_44 : decode cX4_doubt 44 = .ok (.invokevirtual 116, 3) := by decide +kernel
theorem dX4_doubt_47 : decode cX4_doubt 47 = .ok (.ifCond .eq 15, 3) := by decide +kernel
theorem dX4_doubt_50 : decode cX4_doubt 50 = .ok (.aload_n 0, 1) := by decide +kernel
theorem dX4_doubt_51 : decode cX4_doubt 51 = .ok (.dup, 1) := by decide +kernel
theorem dX4_doubt_52 : decode cX4_doubt 52 = .ok (.getfield 38, 3) := by decide +kernel
theorem dX4_doubt_55 : decode cX4_doubt 55 = .ok (.iconst 1, 1) := by decide +kernel
theorem dX4_doubt_56 : decode cX4_doubt 56 = .ok (.iload_n 2, 1) := by decide +kernel
theorem dX4_doubt_57 : decode cX4_doubt 57 = .ok (.ishl, 1) := by decide +kernel
theorem dX4_doubt_58 : decode cX4_doubt 58 = .ok (.ior, 1) := by decide +kernel
theorem dX4_doubt_59 : decode cX4_doubt 59 = .ok (.putfield 38, 3) := by decide +kernel
theorem dX4_doubt_62 : decode cX4_doubt 62 = .ok (.iinc 3 1, 3) := by decide +kernel
theorem dX4_doubt_65 : decode cX4_doubt 65 = .ok (.goto (-51), 3) := by decide +kernel
theorem dX4_doubt_68 : decode cX4_doubt 68 = .ok (.iinc 2 1, 3) := by decide +kernel
theorem dX4_doubt_71 : decode cX4_doubt 71 = .ok (.goto (-64), 3) := by decide +kernel
theorem dX4_doubt_74 : decode cX4_doubt 74 = .ok (.return_, 1) := by decide +kernel
theorem dX4_write_0 : decode cX4_write 0 = .ok (.aload_n 0, 1) := by decide +kernel
theorem dX4_write_1 : decode cX4_write 1 = .ok (.iconst 0, 1) := by decide +kernel
theorem dX4_write_2 : decode cX4_write 2 = .ok (.putfield 44, 3) := by decide +kernel
theorem dX4_write_5 : decode cX4_write 5 = .ok (.iconst 0, 1) := by decide +kernel
theorem dX4_write_6 : decode cX4_write 6 = .ok (.istore_n 2, 1) := by decide +kernel
theorem dX4_write_7 : decode cX4_write 7 = .ok (.iload_n 2, 1) := by decide +kernel
theorem dX4_write_8 : decode cX4_write 8 = .ok (.aload_n 0, 1) := by decide +kernel
theorem dX4_write_9 : decode cX4_write 9 = .ok (.getfield 12, 3) := by decide +kernel
theorem dX4_write_12 : decode cX4_write 12 = .ok (.getfield 110, 3) := by decide +kernel
theorem dX4_write_15 : decode cX4_write 15 = .ok (.if_icmp .ge 41, 3) := by decide +kernel
theorem dX4_write_18 : decode cX4_write 18 = .ok (.iload_n 2, 1) := by decide +kernel
theorem dX4_write_19 : decode cX4_write 19 = .ok (.ifCond .le 9, 3) := by decide +kernel
theorem dX4_write_22 : decode cX4_write 22 = .ok (.aload_n 0, 1) := by decide +kernel
theorem dX4_write_23 : decode cX4_write 23 = .ok (.bipush 59, 2) := by decide +kernel
theorem dX4_write_25 : decode cX4_write 25 = .ok (.invokevirtual 119, 3) := by decide +kernel
theorem dX4_write_28 : decode cX4_write 28 = .ok (.aload_n 0, 1) := by decide +kernel
theorem dX4_write_29 : decode cX4_write 29 = .ok (.bipush 65, 2) := by decide +kernel
theorem dX4_write_31 : decode cX4_write 31 = .ok (.iload_n 2, 1) := by decide +kernel
theorem dX4_write_32 : decode cX4_write 32 = .ok (.iadd, 1) := by decide +kernel
theorem dX4_write_33 : decode cX4_write 33 = .ok (.invokevirtual 119, 3) := by decide +kernel
theorem dX4_write_36 : decode cX4_write 36 = .ok (.aload_n 0, 1) := by decide +kernel
theorem dX4_write_37 : decode cX4_write 37 = .ok (.iload_n 1, 1) := by decide +kernel
theorem dX4_write_38 : decode cX4_write 38 = .ok (.aload_n 0, 1) := by decide +kernel
theorem dX4_write_39 : decode cX4_write 39 = .ok (.getfield 12, 3) := by decide +kernel
theorem dX4_write_42 : decode cX4_write 42 = .ok (.getfield 122, 3) := by decide +kernel
theorem dX4_write_45 : decode cX4_write 45 = .ok (.iload_n 2, 1) := by decide +kernel
theorem dX4_write_46 : decode cX4_write 46 = .ok (.iaload, 1) := by decide +kernel
theorem dX4_write_47 : decode cX4_write 47 = .ok (.invokevirtual 125, 3) := by decide +kernel
theorem dX4_write_50 : decode cX4_write 50 = .ok (.iinc 2 1, 3) := by decide +kernel
theorem dX4_write_53 : decode cX4_write 53 = .ok (.goto (-46), 3) := by decide +kernel
theorem dX4_write_56 : decode cX4_write 56 = .ok (.aload_n 0, 1) := by decide +kernel
theorem dX4_write_57 : decode cX4_write 57 = .ok (.bipush 47, 2) := by decide +kernel
theorem dX4_write_59 : decode cX4_write 59 = .ok (.invokevirtual 119, 3) := by decide +kernel
theorem dX4_write_62 : decode cX4_write 62 = .ok (.iconst 1, 1) := by decide +kernel
theorem dX4_write_63 : decode cX4_write 63 = .ok (.istore_n 2, 1) := by decide +kernel
theorem dX4_write_64 : decode cX4_write 64 = .ok (.iload_n 2, 1) := by decide +kernel
theorem dX4_write_65 : decode cX4_write 65 = .ok (.aload_n 0, 1) := by decide +kernel
theorem dX4_write_66 : decode cX4_write 66 = .ok (.getfield 21, 3) := by decide +kernel
theorem dX4_write_69 : decode cX4_write 69 = .ok (.getfield 128, 3) := by decide +kernel
theorem dX4_write_72 : decode cX4_write 72 = .ok (.if_icmp .ge 33, 3) := by decide +kernel
theorem dX4_write_75 : decode cX4_write 75 = .ok (.iload_n 2, 1) := by decide +kernel
theorem dX4_write_76 : decode cX4_write 76 = .ok (.iconst 1, 1) := by decide +kernel
theorem dX4_write_77 : decode cX4_write 77 = .ok (.if_icmp .le 9, 3) := by decide +kernel
theorem dX4_write_80 : decode cX4_write 80 = .ok (.aload_n 0, 1) := by decide +kernel
theorem dX4_write_81 : decode cX4_write 81 = .ok (.bipush 44, 2) := by decide +kernel
theorem dX4_write_83 : decode cX4_write 83 = .ok (.invokevirtual 119, 3) := by decide +kernel
theorem dX4_write_86 : decode cX4_write 86 = .ok (.aload_n 0, 1) := by decide +kernel
theorem dX4_write_87 : decode cX4_write 87 = .ok (.aload_n 0, 1) := by decide +kernel
theorem dX4_write_88 : decode cX4_write 88 = .ok (.getfield 21, 3) := by decide +kernel
theorem dX4_write_91 : decode cX4_write 91 = .ok (.getfield 129, 3) := by decide +kernel
theorem dX4_write_94 : decode cX4_write 94 = .ok (.iload_n 2, 1) := by decide +kernel
theorem dX4_write_95 : decode cX4_write 95 = .ok (.iaload, 1) := by decide +kernel
theorem dX4_write_96 : decode cX4_write 96 = .ok (.invokevirtual 132, 3) := by decide +kernel
theorem dX4_write_99 : decode cX4_write 99 = .ok (.iinc 2 1, 3) := by decide +kernel
theorem dX4_write_102 : decode cX4_write 102 = .ok (.goto (-38), 3) := by decide +kernel
theorem dX4_write_105 : decode cX4_write 105 = .ok (.return_, 1) := by decide +kernel
theorem dX4_writePages_0 : decode cX4_writePages 0 = .ok (.iconst 1, 1) := by decide +kernel
theorem dX4_writePages_1 : decode cX4_writePages 1 = .ok (.istore_n 3, 1) := by decide +kernel
theorem dX4_writePages_2 : decode cX4_writePages 2 = .ok (.iconst 0, 1) := by decide +kernel
theorem dX4_writePages_3 : decode cX4_writePages 3 = .ok (.istore 4, 2) := by decide +kernel
theorem dX4_writePages_5 : decode cX4_writePages 5 = .ok (.iload 4, 2) := by decide +kernel
theorem dX4_writePages_7 : decode cX4_writePages 7 = .ok (.iload_n 1, 1) := by decide +kernel
theorem dX4_writePages_8 : decode cX4_writePages 8 = .ok (.if_icmp .ge 56, 3) := by decide +kernel
theorem dX4_writePages_11 : decode cX4_writePages 11 = .ok (.iload_n 2, 1) := by decide +kernel
theorem dX4_writePages_12 : decode cX4_writePages 12 = .ok (.iload 4, 2) := by decide +kernel
theorem dX4_writePages_14 : decode cX4_writePages 14 = .ok (.ishr, 1) := by decide +kernel
theorem dX4_writePages_15 : decode cX4_writePages 15 = .ok (.iconst 1, 1) := by decide +kernel
theorem dX4_writePages_16 : decode cX4_writePages 16 = .ok (.iand, 1) := by decide +kernel
theorem dX4_writePages_17 : decode cX4_writePages 17 = .ok (.iconst 1, 1) := by decide +kernel
theorem dX4_writePages_18 : decode cX4_writePages 18 = .ok (.if_icmp .ne 40, 3) := by decide +kernel
theorem dX4_writePages_21 : decode cX4_writePages 21 = .ok (.iload_n 3, 1) := by decide +kernel
theorem dX4_writePages_22 : decode cX4_writePages 22 = .ok (.ifCond .ne 9, 3) := by decide +kernel
theorem dX4_writePages_25 : decode cX4_writePages 25 = .ok (.aload_n 0, 1) := by decide +kernel
theorem dX4_writePages_26 : decode cX4_writePages 26 = .ok (.bipush 44, 2) := by decide +kernel
theorem dX4_writePages_28 : decode cX4_writePages 28 = .ok (.invokevirtual 119, 3) := by decide +kernel
theorem dX4_writePages_31 : decode cX4_writePages 31 = .ok (.iconst 0, 1) := by decide +kernel
theorem dX4_writePages_32 : decode cX4_writePages 32 = .ok (.istore_n 3, 1) := by decide +kernel
theorem dX4_writePages_33 : decode cX4_writePages 33 = .ok (.aload_n 0, 1) := by decide +kernel
theorem dX4_writePages_34 : decode cX4_writePages 34 = .ok (.iload 4, 2) := by decide +kernel
theorem dX4_writePages_36 : decode cX4_writePages 36 = .ok (.invokevirtual 132, 3) := by decide +kernel
theorem dX4_writePages_39 : decode cX4_writePages 39 = .ok (.aload_n 0, 1) := by decide +kernel
theorem dX4_writePages_40 : decode cX4_writePages 40 = .ok (.getfield 38, 3) := by decide +kernel
theorem dX4_writePages_43 : decode cX4_writePages 43 = .ok (.iload 4, 2) := by decide +kernel
theorem dX4_writePages_45 : decode cX4_writePages 45 = .ok (.ishr, 1) := by decide +kernel
theorem dX4_writePages_46 : decode cX4_writePages 46 = .ok (.iconst 1, 1) := by decide +kernel
theorem dX4_writePages_47 : decode cX4_writePages 47 = .ok (.iand, 1) := by decide +kernel
theorem dX4_writePages_48 : decode cX4_writePages 48 = .ok (.iconst 1, 1) := by decide +kernel
theorem dX4_writePages_49 : decode cX4_writePages 49 = .ok (.if_icmp .ne 9, 3) := by decide +kernel
theorem dX4_writePages_52 : decode cX4_writePages 52 = .ok (.aload_n 0, 1) := by decide +kernel
theorem dX4_writePages_53 : decode cX4_writePages 53 = .ok (.bipush 63, 2) := by decide +kernel
theorem dX4_writePages_55 : decode cX4_writePages 55 = .ok (.invokevirtual 119, 3) := by decide +kernel
theorem dX4_writePages_58 : decode cX4_writePages 58 = .ok (.iinc 4 1, 3) := by decide +kernel
theorem dX4_writePages_61 : decode cX4_writePages 61 = .ok (.goto (-56), 3) := by decide +kernel
theorem dX4_writePages_64 : decode cX4_writePages 64 = .ok (.return_, 1) := by decide +kernel
theorem dX4_addNumber_0 : decode cX4_addNumber 0 = .ok (.aload_n 0, 1) := by decide +kernel
theorem dX4_addNumber_1 : decode cX4_addNumber 1 = .ok (.bipush 48, 2) := by decide +kernel
theorem dX4_addNumber_3 : decode cX4_addNumber 3 = .ok (.iload_n 1, 1) := by decide +kernel
theorem dX4_addNumber_4 : decode cX4_addNumber 4 = .ok (.iadd, 1) := by decide +kernel
theorem dX4_addNumber_5 : decode cX4_addNumber 5 = .ok (.invokevirtual 119, 3) := by decide +kernel
theorem dX4_addNumber_8 : decode cX4_addNumber 8 = .ok (.return_, 1) := by decide +kernel
theorem dX4_add_0 : decode cX4_add 0 = .ok (.aload_n 0, 1) := by decide +kernel
theorem dX4_add_1 : decode cX4_add 1 = .ok (.getfield 44, 3) := by decide +kernel
theorem dX4_add_4 : decode cX4_add 4 = .ok (.bipush 64, 2) := by decide +kernel
theorem dX4_add_6 : decode cX4_add 6 = .ok (.if_icmp .ge 23, 3) := by decide +kernel
theorem dX4_add_9 : decode cX4_add 9 = .ok (.aload_n 0, 1) := by decide +kernel
theorem dX4_add_10 : decode cX4_add 10 = .ok (.getfield 41, 3) := by decide +kernel
theorem dX4_add_13 : decode cX4_add 13 = .ok (.aload_n 0, 1) := by decide +kernel
theorem dX4_add_14 : decode cX4_add 14 = .ok (.getfield 44, 3) := by decide +kernel
theorem dX4_add_17 : decode cX4_add 17 = .ok (.iload_n 1, 1) := by decide +kernel
theorem dX4_add_18 : decode cX4_add 18 = .ok (.iastore, 1) := by decide +kernel
theorem dX4_add_19 : decode cX4_add 19 = .ok (.aload_n 0, 1) := by decide +kernel
theorem dX4_add_20 : decode cX4_add 20 = .ok (.dup, 1) := by decide +kernel
theorem dX4_add_21 : decode cX4_add 21 = .ok (.getfield 44, 3) := by decide +kernel
theorem dX4_add_24 : decode cX4_add 24 = .ok (.iconst 1, 1) := by decide +kernel
theorem dX4_add_25 : decode cX4_add 25 = .ok (.iadd, 1) := by decide +kernel
theorem dX4_add_26 : decode cX4_add 26 = .ok (.putfield 44, 3) := by decide +kernel
theorem dX4_add_29 : decode cX4_add 29 = .ok (.return_, 1) := by decide +kernel
theorem dX5_init_0 : decode cX5_init 0 = .ok (.aload_n 0, 1) := by decide +kernel
theorem dX5_init_1 : decode cX5_init 1 = .ok (.invokespecial 3, 3) := by decide +kernel
theorem dX5_init_4 : decode cX5_init 4 = .ok (.aload_n 0, 1) := by decide +kernel
theorem dX5_init_5 : decode cX5_init 5 = .ok (.iconst 0, 1) := by decide +kernel
theorem dX5_init_6 : decode cX5_init 6 = .ok (.putfield 9, 3) := by decide +kernel
theorem dX5_init_9 : decode cX5_init 9 = .ok (.aload_n 0, 1) := by decide +kernel
theorem dX5_init_10 : decode cX5_init 10 = .ok (.bipush 10, 2) := by decide +kernel
theorem dX5_init_12 : decode cX5_init 12 = .ok (.bipush 10, 2) := by decide +kernel
theorem dX5_init_14 : decode cX5_init 14 = .ok (.multianewarray 15 2, 4) := by decide +kernel
theorem dX5_init_18 : decode cX5_init 18 = .ok (.putfield 17, 3) := by decide +kernel
theorem dX5_init_21 : decode cX5_init 21 = .ok (.aload_n 0, 1) := by decide +kernel
theorem dX5_init_22 : decode cX5_init 22 = .ok (.bipush 10, 2) := by decide +kernel
theorem dX5_init_24 : decode cX5_init 24 = .ok (.newarray .int, 2) := by decide +kernel
theorem dX5_init_26 : decode cX5_init 26 = .ok (.putfield 20, 3) := by decide +kernel
theorem dX5_init_29 : decode cX5_init 29 = .ok (.return_, 1) := by decide +kernel
theorem dX5_survey_0 : decode cX5_survey 0 = .ok (.aload_n 0, 1) := by decide +kernel
theorem dX5_survey_1 : decode cX5_survey 1 = .ok (.aload_n 1, 1) := by decide +kernel
theorem dX5_survey_2 : decode cX5_survey 2 = .ok (.getfield 24, 3) := by decide +kernel
theorem dX5_survey_5 : decode cX5_survey 5 = .ok (.putfield 9, 3) := by decide +kernel
theorem dX5_survey_8 : decode cX5_survey 8 = .ok (.iconst 0, 1) := by decide +kernel
theorem dX5_survey_9 : decode cX5_survey 9 = .ok (.istore_n 2, 1) := by decide +kernel
theorem dX5_survey_10 : decode cX5_survey 10 = .ok (.iload_n 2, 1) := by decide +kernel
theorem dX5_survey_11 : decode cX5_survey 11 = .ok (.aload_n 0, 1) := by decide +kernel
theorem dX5_survey_12 : decode cX5_survey 12 = .ok (.getfield 9, 3) := by decide +kernel
theorem dX5_survey_15 : decode cX5_survey 15 = .ok (.if_icmp .ge 15, 3) := by decide +kernel
theorem dX5_survey_18 : decode cX5_survey 18 = .ok (.aload_n 0, 1) := by decide +kernel
theorem dX5_survey_19 : decode cX5_survey 19 = .ok (.aload_n 1, 1) := by decide +kernel
theorem dX5_survey_20 : decode cX5_survey 20 = .ok (.iload_n 2, 1) := by decide +kernel
theorem dX5_survey_21 : decode cX5_survey 21 = .ok (.invokevirtual 27, 3) := by decide +kernel
theorem dX5_survey_24 : decode cX5_survey 24 = .ok (.iinc 2 1, 3) := by decide +kernel
theorem dX5_survey_27 : decode cX5_survey 27 = .ok (.goto (-17), 3) := by decide +kernel
theorem dX5_survey_30 : decode cX5_survey 30 = .ok (.return_, 1) := by decide +kernel
theorem dX5_surveyFrom_0 : decode cX5_surveyFrom 0 = .ok (.iconst 0, 1) := by decide +kernel
theorem dX5_surveyFrom_1 : decode cX5_surveyFrom 1 = .ok (.istore_n 3, 1) := by decide +kernel
theorem dX5_surveyFrom_2 : decode cX5_surveyFrom 2 = .ok (.iload_n 3, 1) := by decide +kernel
theorem dX5_surveyFrom_3 : decode cX5_surveyFrom 3 = .ok (.aload_n 0, 1) := by decide +kernel
theorem dX5_surveyFrom_4 : decode cX5_surveyFrom 4 = .ok (.getfield 9, 3) := by decide +kernel
theorem dX5_surveyFrom_7 : decode cX5_surveyFrom 7 = .ok (.if_icmp .ge 46, 3) := by decide +kernel
theorem dX5_surveyFrom_10 : decode cX5_surveyFrom 10 = .ok (.iload_n 2, 1) := by decide +kernel
theorem dX5_surveyFrom_11 : decode cX5_surveyFrom 11 = .ok (.iload_n 3, 1) := by decide +kernel
theorem dX5_surveyFrom_12 : decode cX5_surveyFrom 12 = .ok (.if_icmp .ne 7, 3) := by decide +kernel
theorem dX5_surveyFrom_15 : decode cX5_surveyFrom 15 = .ok (.iconst 0, 1) := by decide +kernel
theorem dX5_surveyFrom_16 : decode cX5_surveyFrom 16 = .ok (.goto 9, 3) := by decide +kernel
theorem dX5_surveyFrom_19 : decode cX5_surveyFrom 19 = .ok (.aload_n 1, 1) := by decide +kernel
theorem dX5_surveyFrom_20 : decode cX5_surveyFrom 20 = .ok (.iload_n 2, 1) := by decide +kernel
theorem dX5_surveyFrom_21 : decode cX5_surveyFrom 21 = .ok (.iload_n 3, 1) := by decide +kernel
theorem dX5_surveyFrom_22 : decode cX5_surveyFrom 22 = .ok (.invokestatic 31, 3) := by decide +kernel
theorem dX5_surveyFrom_25 : decode cX5_surveyFrom 25 = .ok (.istore 4, 2) := by decide +kernel
theorem dX5_surveyFrom_27 : decode cX5_surveyFrom 27 = .ok (.aload_n 0, 1) := by decide +kernel
theorem dX5_surveyFrom_28 : decode cX5_surveyFrom 28 = .ok (.getfield 17, 3) := by decide +kernel
theorem dX5_surveyFrom_31 : decode cX5_surveyFrom 31 = .ok (.iload_n 2, 1) := by decide +kernel
theorem dX5_surveyFrom_32 : decode cX5_surveyFrom 32 = .ok (.aaload, 1) := by decide +kernel
theorem dX5_surveyFrom_33 : decode cX5_surveyFrom 33 = .ok (.iload_n 3, 1) := by decide +kernel
theorem dX5_surveyFrom_34 : decode cX5_surveyFrom 34 = .ok (.iload 4, 2) := by decide +kernel
theorem dX5_surveyFrom_36 : decode cX5_surveyFrom 36 = .ok (.iastore, 1) := by decide +kernel
theorem dX5_surveyFrom_37 : decode cX5_surveyFrom 37 = .ok (.aload_n 0, 1) := by decide +kernel
theorem dX5_surveyFrom_38 : decode cX5_surveyFrom 38 = .ok (.getfield 17, 3) := by decide +kernel
theorem dX5_surveyFrom_41 : decode cX5_surveyFrom 41 = .ok (.iload_n 3, 1) := by decide +kernel
theorem dX5_surveyFrom_42 : decode cX5_surveyFrom 42 = .ok (.aaload, 1) := by decide +kernel
theorem dX5_surveyFrom_43 : decode cX5_surveyFrom 43 = .ok (.iload_n 2, 1) := by decide +kernel
theorem dX5_surveyFrom_44 : decode cX5_surveyFrom 44 = .ok (.iload 4, 2) := by decide +kernel
theorem dX5_surveyFrom_46 : decode cX5_surveyFrom 46 = .ok (.iastore, 1) := by decide +kernel
theorem dX5_surveyFrom_47 : decode cX5_surveyFrom 47 = .ok (.iinc 3 1, 3) := by decide +kernel
theorem dX5_surveyFrom_50 : decode cX5_surveyFrom 50 = .ok (.goto (-48), 3) := by decide +kernel
theorem dX5_surveyFrom_53 : decode cX5_surveyFrom 53 = .ok (.return_, 1) := by decide +kernel
theorem dX5_markNear_0 : decode cX5_markNear 0 = .ok (.iconst 0, 1) := by decide +kernel
theorem dX5_markNear_1 : decode cX5_markNear 1 = .ok (.istore_n 2, 1) := by decide +kernel
theorem dX5_markNear_2 : decode cX5_markNear 2 = .ok (.iload_n 2, 1) := by decide +kernel
theorem dX5_markNear_3 : decode cX5_markNear 3 = .ok (.aload_n 0, 1) := by decide +kernel
theorem dX5_markNear_4 : decode cX5_markNear 4 = .ok (.getfield 9, 3) := by decide +kernel
theorem dX5_markNear_7 : decode cX5_markNear 7 = .ok (.if_icmp .ge 56, 3) := by decide +kernel
theorem dX5_markNear_10 : decode cX5_markNear 10 = .ok (.aload_n 0, 1) := by decide +kernel
theorem dX5_markNear_11 : decode cX5_markNear 11 = .ok (.getfield 20, 3) := by decide +kernel
theorem dX5_markNear_14 : decode cX5_markNear 14 = .ok (.iload_n 2, 1) := by decide +kernel
theorem dX5_markNear_15 : decode cX5_markNear 15 = .ok (.iconst 0, 1) := by decide +kernel
theorem dX5_markNear_16 : decode cX5_markNear 16 = .ok (.iastore, 1) := by decide +kernel
theorem dX5_markNear_17 : decode cX5_markNear 17 = .ok (.iconst 0, 1) := by decide +kernel
theorem dX5_markNear_18 : decode cX5_markNear 18 = .ok (.istore_n 3, 1) := by decide +kernel
theorem dX5_markNear_19 : decode cX5_markNear 19 = .ok (.iload_n 3, 1) := by decide +kernel
theorem dX5_markNear_20 : decode cX5_markNear 20 = .ok (.aload_n 0, 1) := by decide +kernel
theorem dX5_markNear_21 : decode cX5_markNear 21 = .ok (.getfield 9, 3) := by decide +kernel
theorem dX5_markNear_24 : decode cX5_markNear 24 = .ok (.if_icmp .ge 33, 3) := by decide +kernel
theorem dX5_markNear_27 : decode cX5_markNear 27 = .ok (.aload_n 0, 1) := by decide +kernel
theorem dX5_markNear_28 : decode cX5_markNear 28 = .ok (.getfield 17, 3) := by decide +kernel
theorem dX5_markNear_31 : decode cX5_markNear 31 = .ok (.iload_n 2, 1) := by decide +kernel
theorem dX5_markNear_32 : decode cX5_markNear 32 = .ok (.aaload, 1) := by decide +kernel
theorem dX5_markNear_33 : decode cX5_markNear 33 = .ok (.iload_n 3, 1) := by decide +kernel
theorem dX5_markNear_34 : decode cX5_markNear 34 = .ok (.iaload, 1) := by decide +kernel
theorem dX5_markNear_35 : decode cX5_markNear 35 = .ok (.iload_n 1, 1) := by decide +kernel
theorem dX5_markNear_36 : decode cX5_markNear 36 = .ok (.if_icmp .gt 15, 3) := by decide +kernel
theorem dX5_markNear_39 : decode cX5_markNear 39 = .ok (.aload_n 0, 1) := by decide +kernel
theorem dX5_markNear_40 : decode cX5_markNear 40 = .ok (.getfield 20, 3) := by decide +kernel
theorem dX5_markNear_43 : decode cX5_markNear 43 = .ok (.iload_n 2, 1) := by decide +kernel
theorem dX5_markNear_44 : decode cX5_markNear 44 = .ok (.dup2, 1) := by decide +kernel
theorem dX5_markNear_45 : decode cX5_markNear 45 = .ok (.iaload, 1) := by decide +kernel
theorem dX5_markNear_46 : decode cX5_markNear 46 = .ok (.iconst 1, 1) := by decide +kernel
theorem dX5_markNear_47 : decode cX5_markNear 47 = .ok (.iload_n 3, 1) := by decide +kernel
theorem dX5_markNear_48 : decode cX5_markNear 48 = .ok (.ishl, 1) := by decide +kernel
theorem dX5_markNear_49 : decode cX5_markNear 49 = .ok (.ior, 1) := by decide +kernel
theorem dX5_markNear_50 : decode cX5_markNear 50 = .ok (.iastore, 1) := by decide +kernel
theorem dX5_markNear_51 : decode cX5_markNear 51 = .ok (.iinc 3 1, 3) := by decide +kernel
theorem dX5_markNear_54 : decode cX5_markNear 54 = .ok (.goto (-35), 3) := by decide +kernel
theorem dX5_markNear_57 : decode cX5_markNear 57 = .ok (.iinc 2 1, 3) := by decide +kernel
theorem dX5_markNear_60 : decode cX5_markNear 60 = .ok (.goto (-58), 3) := by decide +kernel
theorem dX5_markNear_63 : decode cX5_markNear 63 = .ok (.return_, 1) := by decide +kernel
theorem dX5_widest_0 : decode cX5_widest 0 = .ok (.iconst 0, 1) := by decide +kernel
theorem dX5_widest_1 : decode cX5_widest 1 = .ok (.istore_n 2, 1) := by decide +kernel
theorem dX5_widest_2 : decode cX5_widest 2 = .ok (.iconst 0, 1) := by decide +kernel
theorem dX5_widest_3 : decode cX5_widest 3 = .ok (.istore_n 3, 1) := by decide +kernel
theorem dX5_widest_4 : decode cX5_widest 4 = .ok (.iload_n 3, 1) := by decide +kernel
theorem dX5_widest_5 : decode cX5_widest 5 = .ok (.aload_n 0, 1) := by decide +kernel
theorem dX5_widest_6 : decode cX5_widest 6 = .ok (.getfield 9, 3) := by decide +kernel
theorem dX5_widest_9 : decode cX5_widest 9 = .ok (.if_icmp .ge 29, 3) := by decide +kernel
theorem dX5_widest_12 : decode cX5_widest 12 = .ok (.iload_n 1, 1) := by decide +kernel
theorem dX5_widest_13 : decode cX5_widest 13 = .ok (.iload_n 3, 1) := by decide +kernel
theorem dX5_widest_14 : decode cX5_widest 14 = .ok (.ishr, 1) := by decide +kernel
theorem dX5_widest_15 : decode cX5_widest 15 = .ok (.iconst 1, 1) := by decide +kernel
theorem dX5_widest_16 : decode cX5_widest 16 = .ok (.iand, 1) := by decide +kernel
theorem dX5_widest_17 : decode cX5_widest 17 = .ok (.iconst 1, 1) := by decide +kernel
theorem dX5_widest_18 : decode cX5_widest 18 = .ok (.if_icmp .ne 14, 3) := by decide +kernel
theorem dX5_widest_21 : decode cX5_widest 21 = .ok (.iload_n 2, 1) := by decide +kernel
theorem dX5_widest_22 : decode cX5_widest 22 = .ok (.aload_n 0, 1) := by decide +kernel
theorem dX5_widest_23 : decode cX5_widest 23 = .ok (.iload_n 3, 1) := by decide +kernel
theorem dX5_widest_24 : decode cX5_widest 24 = .ok (.iload_n 1, 1) := by decide +kernel
theorem dX5_widest_25 : decode cX5_widest 25 = .ok (.invokevirtual 35, 3) := by decide +kernel
theorem dX5_widest_28 : decode cX5_widest 28 = .ok (.invokestatic 39, 3) := by decide +kernel
theorem dX5_widest_31 : decode cX5_widest 31 = .ok (.istore_n 2, 1) := by decide +kernel
theorem dX5_widest_32 : decode cX5_widest 32 = .ok (.iinc 3 1, 3) := by decide +kernel
theorem dX5_widest_35 : decode cX5_widest 35 = .ok (.goto (-31), 3) := by decide +kernel
theorem dX5_widest_38 : decode cX5_widest 38 = .ok (.iload_n 2, 1) := by decide +kernel
theorem dX5_widest_39 : decode cX5_widest 39 = .ok (.ireturn, 1) := by decide +kernel
theorem dX5_furthest_0 : decode cX5_furthest 0 = .ok (.iconst 0, 1) := by decide +kernel
theorem dX5_furthest_1 : decode cX5_furthest 1 = .ok (.istore_n 3, 1) := by decide +kernel
theorem dX5_furthest_2 : decode cX5_furthest 2 = .ok (.iconst 0, 1) := by decide +kernel
theorem dX5_furthest_3 : decode cX5_furthest 3 = .ok (.istore 4, 2) := by decide +kernel
theorem dX5_furthest_5 : decode cX5_furthest 5 = .ok (.iload 4, 2) := by decide +kernel
theorem dX5_furthest_7 : decode cX5_furthest 7 = .ok (.aload_n 0, 1) := by decide +kernel
theorem dX5_furthest_8 : decode cX5_furthest 8 = .ok (.getfield 9, 3) := by decide +kernel
theorem dX5_furthest_11 : decode cX5_furthest 11 = .ok (.if_icmp .ge 42, 3) := by decide +kernel
theorem dX5_furthest_14 : decode cX5_furthest 14 = .ok (.iload_n 2, 1) := by decide +kernel
theorem dX5_furthest_15 : decode cX5_furthest 15 = .ok (.iload 4, 2) := by decide +kernel
theorem dX5_furthest_17 : decode cX5_furthest 17 = .ok (.ishr, 1) := by decide +kernel
theorem dX5_furthest_18 : decode cX5_furthest 18 = .ok (.iconst 1, 1) := by decide +kernel
theorem dX5_furthest_19 : decode cX5_furthest 19 = .ok (.iand, 1) := by decide +kernel
theorem dX5_furthest_20 : decode cX5_furthest 20 = .ok (.iconst 1, 1) := by decide +kernel
theorem dX5_furthest_21 : decode cX5_furthest 21 = .ok (.if_icmp .ne 26, 3) := by decide +kernel
theorem dX5_furthest_24 : decode cX5_furthest 24 = .ok (.aload_n 0, 1) := by decide +kernel
theorem dX5_furthest_25 : decode cX5_furthest 25 = .ok (.getfield 17, 3) := by decide +kernel
theorem dX5_furthest_28 : decode cX5_furthest 28 = .ok (.iload_n 1, 1) := by decide +kernel
theorem dX5_furthest_29 : decode cX5_furthest 29 = .ok (.aaload, 1) := by decide +kernel
theorem dX5_furthest_30 : decode cX5_furthest 30 = .ok (.iload 4, 2) := by decide +kernel
theorem dX5_furthest_32 : decode cX5_furthest 32 = .ok (.iaload, 1) := by decide +kernel
theorem dX5_furthest_33 : decode cX5_furthest 33 = .ok (.iload_n 3, 1) := by decide +kernel
theorem dX5_furthest_34 : decode cX5_furthest 34 = .ok (.if_icmp .le 13, 3) := by decide +kernel
theorem dX5_furthest_37 : decode cX5_furthest 37 = .ok (.aload_n 0, 1) := by decide +kernel
theorem dX5_furthest_38 : decode cX5_furthest 38 = .ok (.getfield 17, 3) := by decide +kernel
theorem dX5_furthest_41 : decode cX5_furthest 41 = .ok (.iload_n 1, 1) := by decide +kernel
theorem dX5_furthest_42 : decode cX5_furthest 42 = .ok (.aaload, 1) := by decide +kernel
theorem dX5_furthest_43 : decode cX5_furthest 43 = .ok (.iload 4, 2) := by decide +kernel
theorem dX5_furthest_45 : decode cX5_furthest 45 = .ok (.iaload, 1) := by decide +kernel
theorem dX5_furthest_46 : decode cX5_furthest 46 = .ok (.istore_n 3, 1) := by decide +kernel
theorem dX5_furthest_47 : decode cX5_furthest 47 = .ok (.iinc 4 1, 3) := by decide +kernel
theorem dX5_furthest_50 : decode cX5_furthest 50 = .ok (.goto (-45), 3) := by decide +kernel
theorem dX5_furthest_53 : decode cX5_furthest 53 = .ok (.iload_n 3, 1) := by decide +kernel
theorem dX5_furthest_54 : decode cX5_furthest 54 = .ok (.ireturn, 1) := by decide +kernel
theorem dX5_middle_0 : decode cX5_middle 0 = .ok (.ldc 44, 2) := by decide +kernel
theorem dX5_middle_2 : decode cX5_middle 2 = .ok (.istore_n 2, 1) := by decide +kernel
theorem dX5_middle_3 : decode cX5_middle 3 = .ok (.iconst 0, 1) := by decide +kernel
theorem dX5_middle_4 : decode cX5_middle 4 = .ok (.istore_n 3, 1) := by decide +kernel
theorem dX5_middle_5 : decode cX5_middle 5 = .ok (.iconst 0, 1) := by decide +kernel
theorem dX5_middle_6 : decode cX5_middle 6 = .ok (.istore 4, 2) := by decide +kernel
theorem dX5_middle_8 : decode cX5_middle 8 = .ok (.iload 4, 2) := by decide +kernel
theorem dX5_middle_10 : decode cX5_middle 10 = .ok (.aload_n 0, 1) := by decide +kernel
theorem dX5_middle_11 : decode cX5_middle 11 = .ok (.getfield 9, 3) := by decide +kernel
theorem dX5_middle_14 : decode cX5_middle 14 = .ok (.if_icmp .ge 46, 3) := by decide +kernel
theorem dX5_middle_17 : decode cX5_middle 17 = .ok (.iload_n 1, 1) := by decide +kernel
theorem dX5_middle_18 : decode cX5_middle 18 = .ok (.iload 4, 2) := by decide +kernel
theorem dX5_middle_20 : decode cX5_middle 20 = .ok (.ishr, 1) := by decide +kernel
theorem dX5_middle_21 : decode cX5_middle 21 = .ok (.iconst 1, 1) := by decide +kernel
theorem dX5_middle_22 : decode cX5_middle 22 = .ok (.iand, 1) := by decide +kernel
theorem dX5_middle_23 : decode cX5_middle 23 = .ok (.iconst 1, 1) := by decide +kernel
theorem dX5_middle_24 : decode cX5_middle 24 = .ok (.if_icmp .ne 30, 3) := by decide +kernel
theorem dX5_middle_27 : decode cX5_middle 27 = .ok (.aload_n 0, 1) := by decide +kernel
theorem dX5_middle_28 : decode cX5_middle 28 = .ok (.iload 4, 2) := by decide +kernel
theorem dX5_middle_30 : decode cX5_middle 30 = .ok (.iload_n 1, 1) := by decide +kernel
theorem dX5_middle_31 : decode cX5_middle 31 = .ok (.invokevirtual 35, 3) := by decide +kernel
theorem dX5_middle_34 : decode cX5_middle 34 = .ok (.istore 5, 2) := by decide +kernel
theorem dX5_middle_36 : decode cX5_middle 36 = .ok (.iload_n 2, 1) := by decide +kernel
theorem dX5_middle_37 : decode cX5_middle 37 = .ok (.ldc 44, 2) := by decide +kernel
theorem dX5_middle_39 : decode cX5_middle 39 = .ok (.if_icmp .eq 9, 3) := by decide +kernel
theorem dX5_middle_42 : decode cX5_middle 42 = .ok (.iload 5, 2) := by decide +kernel
theorem dX5_middle_44 : decode cX5_middle 44 = .ok (.iload_n 3, 1) := by decide +kernel
theorem dX5_middle_45 : decode cX5_middle 45 = .ok (.if_icmp .ge 9, 3) := by decide +kernel
theorem dX5_middle_48 : decode cX5_middle 48 = .ok (.iload 4, 2) := by decide +kernel
theorem dX5_middle_50 : decode cX5_middle 50 = .ok (.istore_n 2, 1) := by decide +kernel
theorem dX5_middle_51 : decode cX5_middle 51 = .ok (.iload 5, 2) := by decide +kernel
theorem dX5_middle_53 : decode cX5_middle 53 = .ok (.istore_n 3, 1) := by decide +kernel
theorem dX5_middle_54 : decode cX5_middle 54 = .ok (.iinc 4 1, 3) := by decide +kernel
theorem dX5_middle_57 : decode cX5_middle 57 = .ok (.goto (-49), 3) := by decide +kernel
theorem dX5_middle_60 : decode cX5_middle 60 = .ok (.iload_n 2, 1) := by decide +kernel
theorem dX5_middle_61 : decode cX5_middle 61 = .ok (.ireturn, 1) := by decide +kernel
theorem dX5_between_0 : decode cX5_between 0 = .ok (.aload_n 0, 1) := by decide +kernel
theorem dX5_between_1 : decode cX5_between 1 = .ok (.getfield 45, 3) := by decide +kernel
theorem dX5_between_4 : decode cX5_between 4 = .ok (.iconst 0, 1) := by decide +kernel
theorem dX5_between_5 : decode cX5_between 5 = .ok (.aaload, 1) := by decide +kernel
theorem dX5_between_6 : decode cX5_between 6 = .ok (.iload_n 1, 1) := by decide +kernel
theorem dX5_between_7 : decode cX5_between 7 = .ok (.iaload, 1) := by decide +kernel
theorem dX5_between_8 : decode cX5_between 8 = .ok (.aload_n 0, 1) := by decide +kernel
theorem dX5_between_9 : decode cX5_between 9 = .ok (.getfield 45, 3) := by decide +kernel
theorem dX5_between_12 : decode cX5_between 12 = .ok (.iconst 0, 1) := by decide +kernel
theorem dX5_between_13 : decode cX5_between 13 = .ok (.aaload, 1) := by decide +kernel
theorem dX5_between_14 : decode cX5_between 14 = .ok (.iload_n 2, 1) := by decide +kernel
theorem dX5_between_15 : decode cX5_between 15 = .ok (.iaload, 1) := by decide +kernel
theorem dX5_between_16 : decode cX5_between 16 = .ok (.isub, 1) := by decide +kernel
theorem dX5_between_17 : decode cX5_between 17 = .ok (.invokestatic 48, 3) := by decide +kernel
theorem dX5_between_20 : decode cX5_between 20 = .ok (.istore_n 3, 1) := by decide +kernel
theorem dX5_between_21 : decode cX5_between 21 = .ok (.aload_n 0, 1) := by decide +kernel
theorem dX5_between_22 : decode cX5_between 22 = .ok (.getfield 45, 3) := by decide +kernel
theorem dX5_between_25 : decode cX5_between 25 = .ok (.iconst 1, 1) := by decide +kernel
theorem dX5_between_26 : decode cX5_between 26 = .ok (.aaload, 1) := by decide +kernel
theorem dX5_between_27 : decode cX5_between 27 = .ok (.iload_n 1, 1) := by decide +kernel
theorem dX5_between_28 : decode cX5_between 28 = .ok (.iaload, 1) := by decide +kernel
theorem dX5_between_29 : decode cX5_between 29 = .ok (.aload_n 0, 1) := by decide +kernel
theorem dX5_between_30 : decode cX5_between 30 = .ok (.getfield 45, 3) := by decide +kernel
theorem dX5_between_33 : decode cX5_between 33 = .ok (.iconst 1, 1) := by decide +kernel
theorem dX5_between_34 : decode cX5_between 34 = .ok (.aaload, 1) := by decide +kernel
theorem dX5_between_35 : decode cX5_between 35 = .ok (.iload_n 2, 1) := by decide +kernel
theorem dX5_between_36 : decode cX5_between 36 = .ok (.iaload, 1) := by decide +kernel
theorem dX5_between_37 : decode cX5_between 37 = .ok (.isub, 1) := by decide +kernel
theorem dX5_between_38 : decode cX5_between 38 = .ok (.invokestatic 48, 3) := by decide +kernel
theorem dX5_between_41 : decode cX5_between 41 = .ok (.istore 4, 2) := by decide +kernel
theorem dX5_between_43 : decode cX5_between 43 = .ok (.aload_n 0, 1) := by decide +kernel
theorem dX5_between_44 : decode cX5_between 44 = .ok (.getfield 45, 3) := by decide +kernel
theorem dX5_between_47 : decode cX5_between 47 = .ok (.iconst 2, 1) := by decide +kernel
theorem dX5_between_48 : decode cX5_between 48 = .ok (.aaload, 1) := by decide +kernel
theorem dX5_between_49 : decode cX5_between 49 = .ok (.iload_n 1, 1) := by decide +kernel
theorem dX5_between_50 : decode cX5_between 50 = .ok (.iaload, 1) := by decide +kernel
theorem dX5_between_51 : decode cX5_between 51 = .ok (.aload_n 0, 1) := by decide +kernel
theorem dX5_between_52 : decode cX5_between 52 = .ok (.getfield 45, 3) := by decide +kernel
theorem dX5_between_55 : decode cX5_between 55 = .ok (.iconst 2, 1) := by decide +kernel
theorem dX5_between_56 : decode cX5_between 56 = .ok (.aaload, 1) := by decide +kernel
theorem dX5_between_57 : decode cX5_between 57 = .ok (.iload_n 2, 1) := by decide +kernel
theorem dX5_between_58 : decode cX5_between 58 = .ok (.iaload, 1) := by decide +kernel
theorem dX5_between_59 : decode cX5_between 59 = .ok (.isub, 1) := by decide +kernel
theorem dX5_between_60 : decode cX5_between 60 = .ok (.invokestatic 48, 3) := by decide +kernel
theorem dX5_between_63 : decode cX5_between 63 = .ok (.istore 5, 2) := by decide +kernel
theorem dX5_between_65 : decode cX5_between 65 = .ok (.aload_n 0, 1) := by decide +kernel
theorem dX5_between_66 : decode cX5_between 66 = .ok (.getfield 52, 3) := by decide +kernel
theorem dX5_between_69 : decode cX5_between 69 = .ok (.iload_n 1, 1) := by decide +kernel
theorem dX5_between_70 : decode cX5_between 70 = .ok (.iaload, 1) := by decide +kernel
theorem dX5_between_71 : decode cX5_between 71 = .ok (.iload_n 3, 1) := by decide +kernel
theorem dX5_between_72 : decode cX5_between 72 = .ok (.iload 4, 2) := by decide +kernel
theorem dX5_between_74 : decode cX5_between 74 = .ok (.iload 5, 2) := by decide +kernel
theorem dX5_between_76 : decode cX5_between 76 = .ok (.invokestatic 55, 3) := by decide +kernel
theorem dX5_between_79 : decode cX5_between 79 = .ok (.aload_n 0, 1) := by decide +kernel
theorem dX5_between_80 : decode cX5_between 80 = .ok (.getfield 52, 3) := by decide +kernel
theorem dX5_between_83 : decode cX5_between 83 = .ok (.iload_n 2, 1) := by decide +kernel
theorem dX5_between_84 : decode cX5_between 84 = .ok (.iaload, 1) := by decide +kernel
theorem dX5_between_85 : decode cX5_between 85 = .ok (.iload_n 3, 1) := by decide +kernel
theorem dX5_between_86 : decode cX5_between 86 = .ok (.iload 4, 2) := by decide +kernel
theorem dX5_between_88 : decode cX5_between 88 = .ok (.iload 5, 2) := by decide +kernel
theorem dX5_between_90 : decode cX5_between 90 = .ok (.invokestatic 55, 3) := by decide +kernel
theorem dX5_between_93 : decode cX5_between 93 = .ok (.invokestatic 59, 3) := by decide +kernel
theorem dX5_between_96 : decode cX5_between 96 = .ok (.ireturn, 1) := by decide +kernel
theorem dX5_given_0 : decode cX5_given 0 = .ok (.iload_n 1, 1) := by decide +kernel
theorem dX5_given_1 : decode cX5_given 1 = .ok (.iload_n 2, 1) := by decide +kernel
theorem dX5_given_2 : decode cX5_given 2 = .ok (.iload_n 3, 1) := by decide +kernel
theorem dX5_given_3 : decode cX5_given 3 = .ok (.invokestatic 39, 3) := by decide +kernel
theorem dX5_given_6 : decode cX5_given 6 = .ok (.invokestatic 39, 3) := by decide +kernel
theorem dX5_given_9 : decode cX5_given 9 = .ok (.istore 4, 2) := by decide +kernel
theorem dX5_given_11 : decode cX5_given 11 = .ok (.iload_n 0, 1) := by decide +kernel
theorem dX5_given_12 : decode cX5_given 12 = .ok (.tableswitch 52 2 5 #[32, 36, 44, 47], 32) := by decide +kernel
theorem dX5_given_44 : decode cX5_given 44 = .ok (.iload_n 1, 1) := by decide +kernel
theorem dX5_given_45 : decode cX5_given 45 = .ok (.iload_n 2, 1) := by decide +kernel
theorem dX5_given_46 : decode cX5_given 46 = .ok (.iadd, 1) := by decide +kernel
theorem dX5_given_47 : decode cX5_given 47 = .ok (.ireturn, 1) := by decide +kernel
theorem dX5_given_48 : decode cX5_given 48 = .ok (.iload_n 1, 1) := by decide +kernel
theorem dX5_given_49 : decode cX5_given 49 = .ok (.iload_n 2, 1) := by decide +kernel
theorem dX5_given_50 : decode cX5_given 50 = .ok (.iconst 2, 1) := by decide +kernel
theorem dX5_given_51 : decode cX5_given 51 = .ok (.idiv, 1) := by decide +kernel
theorem dX5_given_52 : decode cX5_given 52 = .ok (.iadd, 1) := by decide +kernel
theorem dX5_given_53 : decode cX5_given 53 = .ok (.iload_n 3, 1) := by decide +kernel
theorem dX5_given_54 : decode cX5_given 54 = .ok (.iadd, 1) := by decide +kernel
theorem dX5_given_55 : decode cX5_given 55 = .ok (.ireturn, 1) := by decide +kernel
theorem dX5_given_56 : decode cX5_given 56 = .ok (.iload 4, 2) := by decide +kernel
theorem dX5_given_58 : decode cX5_given 58 = .ok (.ireturn, 1) := by decide +kernel
theorem dX5_given_59 : decode cX5_given 59 = .ok (.iload 4, 2) := by decide +kernel
theorem dX5_given_61 : decode cX5_given 61 = .ok (.iconst 5, 1) := by decide +kernel
theorem dX5_given_62 : decode cX5_given 62 = .ok (.iadd, 1) := by decide +kernel
theorem dX5_given_63 : decode cX5_given 63 = .ok (.ireturn, 1) := by decide +kernel
theorem dX5_given_64 : decode cX5_given 64 = .ok (.iload_n 1, 1) := by decide +kernel
theorem dX5_given_65 : decode cX5_given 65 = .ok (.iload_n 2, 1) := by decide +kernel
theorem dX5_given_66 : decode cX5_given 66 = .ok (.iadd, 1) := by decide +kernel
theorem dX5_given_67 : decode cX5_given 67 = .ok (.iload_n 3, 1) := by decide +kernel
theorem dX5_given_68 : decode cX5_given 68 = .ok (.iadd, 1) := by decide +kernel
theorem dX5_given_69 : decode cX5_given 69 = .ok (.ireturn, 1) := by decide +kernel
theorem dX6_init_0 : decode cX6_init 0 = .ok (.aload_n 0, 1) := by decide +kernel
theorem dX6_init_1 : decode cX6_init 1 = .ok (.invokespecial 3, 3) := by decide +kernel
theorem dX6_init_4 : decode cX6_init 4 = .ok (.aload_n 0, 1) := by decide +kernel
theorem dX6_init_5 : decode cX6_init 5 = .ok (.new 9, 3) := by decide +kernel
theorem dX6_init_8 : decode cX6_init 8 = .ok (.dup, 1) := by decide +kernel
theorem dX6_init_9 : decode cX6_init 9 = .ok (.invokespecial 11, 3) := by decide +kernel
theorem dX6_init_12 : decode cX6_init 12 = .ok (.putfield 12, 3) := by decide +kernel
theorem dX6_init_15 : decode cX6_init 15 = .ok (.aload_n 0, 1) := by decide +kernel
theorem dX6_init_16 : decode cX6_init 16 = .ok (.bipush 10, 2) := by decide +kernel
theorem dX6_init_18 : decode cX6_init 18 = .ok (.newarray .int, 2) := by decide +kernel
theorem dX6_init_20 : decode cX6_init 20 = .ok (.putfield 18, 3) := by decide +kernel
theorem dX6_init_23 : decode cX6_init 23 = .ok (.aload_n 0, 1) := by decide +kernel
theorem dX6_init_24 : decode cX6_init 24 = .ok (.bipush 10, 2) := by decide +kernel
theorem dX6_init_26 : decode cX6_init 26 = .ok (.newarray .int, 2) := by decide +kernel
theorem dX6_init_28 : decode cX6_init 28 = .ok (.putfield 22, 3) := by decide +kernel
theorem dX6_init_31 : decode cX6_init 31 = .ok (.aload_n 0, 1) := by decide +kernel
theorem dX6_init_32 : decode cX6_init 32 = .ok (.iconst 0, 1) := by decide +kernel
theorem dX6_init_33 : decode cX6_init 33 = .ok (.putfield 25, 3) := by decide +kernel
theorem dX6_init_36 : decode cX6_init 36 = .ok (.return_, 1) := by decide +kernel
theorem dX6_findFor_0 : decode cX6_findFor 0 = .ok (.aload_n 0, 1) := by decide +kernel
theorem dX6_findFor_1 : decode cX6_findFor 1 = .ok (.getfield 12, 3) := by decide +kernel
theorem dX6_findFor_4 : decode cX6_findFor 4 = .ok (.iload_n 1, 1) := by decide +kernel
theorem dX6_findFor_5 : decode cX6_findFor 5 = .ok (.invokevirtual 29, 3) := by decide +kernel
theorem dX6_findFor_8 : decode cX6_findFor 8 = .ok (.aload_n 0, 1) := by decide +kernel
theorem dX6_findFor_9 : decode cX6_findFor 9 = .ok (.iconst 0, 1) := by decide +kernel
theorem dX6_findFor_10 : decode cX6_findFor 10 = .ok (.putfield 25, 3) := by decide +kernel
theorem dX6_findFor_13 : decode cX6_findFor 13 = .ok (.aload_n 0, 1) := by decide +kernel
theorem dX6_findFor_14 : decode cX6_findFor 14 = .ok (.invokevirtual 33, 3) := by decide +kernel
theorem dX6_findFor_17 : decode cX6_findFor 17 = .ok (.istore_n 2, 1) := by decide +kernel
theorem dX6_findFor_18 : decode cX6_findFor 18 = .ok (.iload_n 2, 1) := by decide +kernel
theorem dX6_findFor_19 : decode cX6_findFor 19 = .ok (.aload_n 0, 1) := by decide +kernel
theorem dX6_findFor_20 : decode cX6_findFor 20 = .ok (.getfield 12, 3) := by decide +kernel
theorem dX6_findFor_23 : decode cX6_findFor 23 = .ok (.getfield 37, 3) := by decide +kernel
theorem dX6_findFor_26 : decode cX6_findFor 26 = .ok (.if_icmp .gt 18, 3) := by decide +kernel
theorem dX6_findFor_29 : decode cX6_findFor 29 = .ok (.aload_n 0, 1) := by decide +kernel
theorem dX6_findFor_30 : decode cX6_findFor 30 = .ok (.iload_n 2, 1) := by decide +kernel
theorem dX6_findFor_31 : decode cX6_findFor 31 = .ok (.invokevirtual 40, 3) := by decide +kernel
theorem dX6_findFor_34 : decode cX6_findFor 34 = .ok (.ifCond .eq 4, 3) := by decide +kernel
theorem dX6_findFor_37 : decode cX6_findFor 37 = .ok (.return_, 1) := by decide +kernel
theorem dX6_findFor_38 : decode cX6_findFor 38 = .ok (.iinc 2 1, 3) := by decide +kernel
theorem dX6_findFor_41 : decode cX6_findFor 41 = .ok (.goto (-23), 3) := by decide +kernel
theorem dX6_findFor_44 : decode cX6_findFor 44 = .ok (.return_, 1) := by decide +kernel
theorem dX6_wantedAtLeast_0 : decode cX6_wantedAtLeast 0 = .ok (.iconst 1, 1) := by decide +kernel
theorem dX6_wantedAtLeast_1 : decode cX6_wantedAtLeast 1 = .ok (.istore_n 1, 1) := by decide +kernel
theorem dX6_wantedAtLeast_2 : decode cX6_wantedAtLeast 2 = .ok (.iconst 0, 1) := by decide +kernel
theorem dX6_wantedAtLeast_3 : decode cX6_wantedAtLeast 3 = .ok (.istore_n 2, 1) := by decide +kernel
theorem dX6_wantedAtLeast_4 : decode cX6_wantedAtLeast 4 = .ok (.iload_n 2, 1) := by decide +kernel
theorem dX6_wantedAtLeast_5 : decode cX6_wantedAtLeast 5 = .ok (.aload_n 0, 1) := by decide +kernel
theorem dX6_wantedAtLeast_6 : decode cX6_wantedAtLeast 6 = .ok (.getfield 12, 3) := by decide +kernel
theorem dX6_wantedAtLeast_9 : decode cX6_wantedAtLeast 9 = .ok (.getfield 37, 3) := by decide +kernel
theorem dX6_wantedAtLeast_12 : decode cX6_wantedAtLeast 12 = .ok (.if_icmp .ge 65, 3) := by decide +kernel
theorem dX6_wantedAtLeast_15 : decode cX6_wantedAtLeast 15 = .ok (.iconst 1, 1) := by decide +kernel
theorem dX6_wantedAtLeast_16 : decode cX6_wantedAtLeast 16 = .ok (.iload_n 2, 1) := by decide +kernel
theorem dX6_wantedAtLeast_17 : decode cX6_wantedAtLeast 17 = .ok (.ishl, 1) := by decide +kernel
theorem dX6_wantedAtLeast_18 : decode cX6_wantedAtLeast 18 = .ok (.istore_n 3, 1) := by decide +kernel
theorem dX6_wantedAtLeast_19 : decode cX6_wantedAtLeast 19 = .ok (.iconst 0, 1) := by decide +kernel
theorem dX6_wantedAtLeast_20 : decode cX6_wantedAtLeast 20 = .ok (.istore 4, 2) := by decide +kernel
theorem dX6_wantedAtLeast_22 : decode cX6_wantedAtLeast 22 = .ok (.iload 4, 2) := by decide +kernel
theorem dX6_wantedAtLeast_24 : decode cX6_wantedAtLeast 24 = .ok (.aload_n 0, 1) := by decide +kernel
theorem dX6_wantedAtLeast_25 : decode cX6_wantedAtLeast 25 = .ok (.getfield 12, 3) := by decide +kernel
theorem dX6_wantedAtLeast_28 : decode cX6_wantedAtLeast 28 = .ok (.getfield 37, 3) := by decide +kernel
theorem dX6_wantedAtLeast_31 : decode cX6_wantedAtLeast 31 = .ok (.if_icmp .ge 31, 3) := by decide +kernel
theorem dX6_wantedAtLeast_34 : decode cX6_wantedAtLeast 34 = .ok (.aload_n 0, 1) := by decide +kernel
theorem dX6_wantedAtLeast_35 : decode cX6_wantedAtLeast 35 = .ok (.getfield 12, 3) := by decide +kernel
theorem dX6_wantedAtLeast_38 : decode cX6_wantedAtLeast 38 = .ok (.getfield 44, 3) := by decide +kernel
theorem dX6_wantedAtLeast_41 : decode cX6_wantedAtLeast 41 = .ok (.iload 4, 2) := by decide +kernel
theorem dX6_wantedAtLeast_43 : decode cX6_wantedAtLeast 43 = .ok (.iaload, 1) := by decide +kernel
theorem dX6_wantedAtLeast_44 : decode cX6_wantedAtLeast 44 = .ok (.iload_n 3, 1) := by decide +kernel
theorem dX6_wantedAtLeast_45 : decode cX6_wantedAtLeast 45 = .ok (.iand, 1) := by decide +kernel
theorem dX6_wantedAtLeast_46 : decode cX6_wantedAtLeast 46 = .ok (.ifCond .ne 10, 3) := by decide +kernel
theorem dX6_wantedAtLeast_49 : decode cX6_wantedAtLeast 49 = .ok (.iload_n 3, 1) := by decide +kernel
theorem dX6_wantedAtLeast_50 : decode cX6_wantedAtLeast 50 = .ok (.iconst 1, 1) := by decide +kernel
theorem dX6_wantedAtLeast_51 : decode cX6_wantedAtLeast 51 = .ok (.iload 4, 2) := by decide +kernel
theorem dX6_wantedAtLeast_53 : decode cX6_wantedAtLeast 53 = .ok (.ishl, 1) := by decide +kernel
theorem dX6_wantedAtLeast_54 : decode cX6_wantedAtLeast 54 = .ok (.ior, 1) := by decide +kernel
theorem dX6_wantedAtLeast_55 : decode cX6_wantedAtLeast 55 = .ok (.istore_n 3, 1) := by decide +kernel
theorem dX6_wantedAtLeast_56 : decode cX6_wantedAtLeast 56 = .ok (.iinc 4 1, 3) := by decide +kernel
theorem dX6_wantedAtLeast_59 : decode cX6_wantedAtLeast 59 = .ok (.goto (-37), 3) := by decide +kernel
theorem dX6_wantedAtLeast_62 : decode cX6_wantedAtLeast 62 = .ok (.iload_n 1, 1) := by decide +kernel
theorem dX6_wantedAtLeast_63 : decode cX6_wantedAtLeast 63 = .ok (.iload_n 3, 1) := by decide +kernel
theorem dX6_wantedAtLeast_64 : decode cX6_wantedAtLeast 64 = .ok (.invokestatic 47, 3) := by decide +kernel
theorem dX6_wantedAtLeast_67 : decode cX6_wantedAtLeast 67 = .ok (.invokestatic 53, 3) := by decide +kernel
theorem dX6_wantedAtLeast_70 : decode cX6_wantedAtLeast 70 = .ok (.istore_n 1, 1) := by decide +kernel
theorem dX6_wantedAtLeast_71 : decode cX6_wantedAtLeast 71 = .ok (.iinc 2 1, 3) := by decide +kernel
theorem dX6_wantedAtLeast_74 : decode cX6_wantedAtLeast 74 = .ok (.goto (-70), 3) := by decide +kernel
theorem dX6_wantedAtLeast_77 : decode cX6_wantedAtLeast 77 = .ok (.iload_n 1, 1) := by decide +kernel
theorem dX6_wantedAtLeast_78 : decode cX6_wantedAtLeast 78 = .ok (.ireturn, 1) := by decide +kernel
theorem dX6_areEnough_0 : decode cX6_areEnough 0 = .ok (.aload_n 0, 1) := by decide +kernel
theorem dX6_areEnough_1 : decode cX6_areEnough 1 = .ok (.getfield 22, 3) := by decide +kernel
theorem dX6_areEnough_4 : decode cX6_areEnough 4 = .ok (.iconst 0, 1) := by decide +kernel
theorem dX6_areEnough_5 : decode cX6_areEnough 5 = .ok (.invokestatic 59, 3) := by decide +kernel
theorem dX6_areEnough_8 : decode cX6_areEnough 8 = .ok (.aload_n 0, 1) := by decide +kernel
theorem dX6_areEnough_9 : decode cX6_areEnough 9 = .ok (.iconst 0, 1) := by decide +kernel
theorem dX6_areEnough_10 : decode cX6_areEnough 10 = .ok (.iconst 0, 1) := by decide +kernel
theorem dX6_areEnough_11 : decode cX6_areEnough 11 = .ok (.iload_n 1, 1) := by decide +kernel
theorem dX6_areEnough_12 : decode cX6_areEnough 12 = .ok (.invokevirtual 65, 3) := by decide +kernel
theorem dX6_areEnough_15 : decode cX6_areEnough 15 = .ok (.ireturn, 1) := by decide +kernel
theorem dX6_settles_0 : decode cX6_settles 0 = .ok (.iload_n 1, 1) := by decide +kernel
theorem dX6_settles_1 : decode cX6_settles 1 = .ok (.aload_n 0, 1) := by decide +kernel
theorem dX6_settles_2 : decode cX6_settles 2 = .ok (.getfield 12, 3) := by decide +kernel
theorem dX6_settles_5 : decode cX6_settles 5 = .ok (.getfield 37, 3) := by decide +kernel
theorem dX6_settles_8 : decode cX6_settles 8 = .ok (.if_icmp .ge 9, 3) := by decide +kernel
theorem dX6_settles_11 : decode cX6_settles 11 = .ok (.iload_n 1, 1) := by decide +kernel
theorem dX6_settles_12 : decode cX6_settles 12 = .ok (.bipush 10, 2) := by decide +kernel
theorem dX6_settles_14 : decode cX6_settles 14 = .ok (.if_icmp .lt 10, 3) := by decide +kernel
theorem dX6_settles_17 : decode cX6_settles 17 = .ok (.aload_n 0, 1) := by decide +kernel
theorem dX6_settles_18 : decode cX6_settles 18 = .ok (.iload_n 2, 1) := by decide +kernel
theorem dX6_settles_19 : decode cX6_settles 19 = .ok (.putfield 25, 3) := by decide +kernel
theorem dX6_settles_22 : decode cX6_settles 22 = .ok (.iconst 1, 1) := by decide +kernel
theorem dX6_settles_23 : decode cX6_settles 23 = .ok (.ireturn, 1) := by decide +kernel
theorem dX6_settles_24 : decode cX6_settles 24 = .ok (.iconst 0, 1) := by decide +kernel
theorem dX6_settles_25 : decode cX6_settles 25 = .ok (.istore 4, 2) := by decide +kernel
theorem dX6_settles_27 : decode cX6_settles 27 = .ok (.iload 4, 2) := by decide +kernel
theorem dX6_settles_29 : decode cX6_settles 29 = .ok (.iload_n 2, 1) := by decide +kernel
theorem dX6_settles_30 : decode cX6_settles 30 = .ok (.if_icmp .gt 89, 3) := by decide +kernel
theorem dX6_settles_33 : decode cX6_settles 33 = .ok (.iload 4, 2) := by decide +kernel
theorem dX6_settles_35 : decode cX6_settles 35 = .ok (.iload_n 3, 1) := by decide +kernel
theorem dX6_settles_36 : decode cX6_settles 36 = .ok (.if_icmp .ge 83, 3) := by decide +kernel
theorem dX6_settles_39 : decode cX6_settles 39 = .ok (.iload 4, 2) := by decide +kernel
theorem dX6_settles_41 : decode cX6_settles 41 = .ok (.bipush 10, 2) := by decide +kernel
theorem dX6_settles_43 : decode cX6_settles 43 = .ok (.if_icmp .ge 76, 3) := by decide +kernel
theorem dX6_settles_46 : decode cX6_settles 46 = .ok (.aload_n 0, 1) := by decide +kernel
theorem dX6_settles_47 : decode cX6_settles 47 = .ok (.iload_n 1, 1) := by decide +kernel
theorem dX6_settles_48 : decode cX6_settles 48 = .ok (.iload 4, 2) := by decide +kernel
theorem dX6_settles_50 : decode cX6_settles 50 = .ok (.invokevirtual 69, 3) := by decide +kernel
theorem dX6_settles_53 : decode cX6_settles 53 = .ok (.ifCond .eq 60, 3) := by decide +kernel
theorem dX6_settles_56 : decode cX6_settles 56 = .ok (.aload_n 0, 1) := by decide +kernel
theorem dX6_settles_57 : decode cX6_settles 57 = .ok (.getfield 18, 3) := by decide +kernel
theorem dX6_settles_60 : decode cX6_settles 60 = .ok (.iload_n 1, 1) := by decide +kernel
theorem dX6_settles_61 : decode cX6_settles 61 = .ok (.iload 4, 2) := by decide +kernel
theorem dX6_settles_63 : decode cX6_settles 63 = .ok (.iastore, 1) := by decide +kernel
theorem dX6_settles_64 : decode cX6_settles 64 = .ok (.aload_n 0, 1) := by decide +kernel
theorem dX6_settles_65 : decode cX6_settles 65 = .ok (.getfield 22, 3) := by decide +kernel
theorem dX6_settles_68 : decode cX6_settles 68 = .ok (.iload 4, 2) := by decide +kernel
theorem dX6_settles_70 : decode cX6_settles 70 = .ok (.dup2, 1) := by decide +kernel
theorem dX6_settles_71 : decode cX6_settles 71 = .ok (.iaload, 1) := by decide +kernel
theorem dX6_settles_72 : decode cX6_settles 72 = .ok (.iconst 1, 1) := by decide +kernel
theorem dX6_settles_73 : decode cX6_settles 73 = .ok (.iload_n 1, 1) := by decide +kernel
theorem dX6_settles_74 : decode cX6_settles 74 = .ok (.ishl, 1) := by decide +kernel
theorem dX6_settles_75 : decode cX6_settles 75 = .ok (.ior, 1) := by decide +kernel
theorem dX6_settles_76 : decode cX6_settles 76 = .ok (.iastore, 1) := by decide +kernel
theorem dX6_settles_77 : decode cX6_settles 77 = .ok (.aload_n 0, 1) := by decide +kernel
theorem dX6_settles_78 : decode cX6_settles 78 = .ok (.iload_n 1, 1) := by decide +kernel
theorem dX6_settles_79 : decode cX6_settles 79 = .ok (.iconst 1, 1) := by decide +kernel
theorem dX6_settles_80 : decode cX6_settles 80 = .ok (.iadd, 1) := by decide +kernel
theorem dX6_settles_81 : decode cX6_settles 81 = .ok (.iload_n 2, 1) := by decide +kernel
theorem dX6_settles_82 : decode cX6_settles 82 = .ok (.iload 4, 2) := by decide +kernel
theorem dX6_settles_84 : decode cX6_settles 84 = .ok (.iconst 1, 1) := by decide +kernel
theorem dX6_settles_85 : decode cX6_settles 85 = .ok (.iadd, 1) := by decide +kernel
theorem dX6_settles_86 : decode cX6_settles 86 = .ok (.invokestatic 53, 3) := by decide +kernel
theorem dX6_settles_89 : decode cX6_settles 89 = .ok (.iload_n 3, 1) := by decide +kernel
theorem dX6_settles_90 : decode cX6_settles 90 = .ok (.invokevirtual 65, 3) := by decide +kernel
theorem dX6_settles_93 : decode cX6_settles 93 = .ok (.ifCond .eq 5, 3) := by decide +kernel
theorem dX6_settles_96 : decode cX6_settles 96 = .ok (.iconst 1, 1) := by decide +kernel
theorem dX6_settles_97 : decode cX6_settles 97 = .ok (.ireturn, 1) := by decide +kernel
theorem dX6_settles_98 : decode cX6_settles 98 = .ok (.aload_n 0, 1) := by decide +kernel
theorem dX6_settles_99 : decode cX6_settles 99 = .ok (.getfield 22, 3) := by decide +kernel
theorem dX6_settles_102 : decode cX6_settles 102 = .ok (.iload 4, 2) := by decide +kernel
theorem dX6_settles_104 : decode cX6_settles 104 = .ok (.dup2, 1) := by decide +kernel
theorem dX6_settles_105 : decode cX6_settles 105 = .ok (.iaload, 1) := by decide +kernel
theorem dX6_settles_106 : decode cX6_settles 106 = .ok (.iconst 1, 1) := by decide +kernel
theorem dX6_settles_107 : decode cX6_settles 107 = .ok (.iload_n 1, 1) := by decide +kernel
theorem dX6_settles_108 : decode cX6_settles 108 = .ok (.ishl, 1) := by decide +kernel
theorem dX6_settles_109 : decode cX6_settles 109 = .ok (.iconst (-1), 1) := by decide +kernel
theorem dX6_settles_110 : decode cX6_settles 110 = .ok (.ixor, 1) := by decide +kernel
theorem dX6_settles_111 : decode cX6_settles 111 = .ok (.iand, 1) := by decide +kernel
theorem dX6_settles_112 : decode cX6_settles 112 = .ok (.iastore, 1) := by decide +kernel
theorem dX6_settles_113 : decode cX6_settles 113 = .ok (.iinc 4 1, 3) := by decide +kernel
theorem dX6_settles_116 : decode cX6_settles 116 = .ok (.goto (-89), 3) := by decide +kernel
theorem dX6_settles_119 : decode cX6_settles 119 = .ok (.iconst 0, 1) := by decide +kernel
theorem dX6_settles_120 : decode cX6_settles 120 = .ok (.ireturn, 1) := by decide +kernel
theorem dX6_fits_0 : decode cX6_fits 0 = .ok (.aload_n 0, 1) := by decide +kernel
theorem dX6_fits_1 : decode cX6_fits 1 = .ok (.getfield 22, 3) := by decide +kernel
theorem dX6_fits_4 : decode cX6_fits 4 = .ok (.iload_n 2, 1) := by decide +kernel
theorem dX6_fits_5 : decode cX6_fits 5 = .ok (.iaload, 1) := by decide +kernel
theorem dX6_fits_6 : decode cX6_fits 6 = .ok (.aload_n 0, 1) := by decide +kernel
theorem dX6_fits_7 : decode cX6_fits 7 = .ok (.getfield 12, 3) := by decide +kernel
theorem dX6_fits_10 : decode cX6_fits 10 = .ok (.getfield 44, 3) := by decide +kernel
theorem dX6_fits_13 : decode cX6_fits 13 = .ok (.iload_n 1, 1) := by decide +kernel
theorem dX6_fits_14 : decode cX6_fits 14 = .ok (.iaload, 1) := by decide +kernel
theorem dX6_fits_15 : decode cX6_fits 15 = .ok (.iconst (-1), 1) := by decide +kernel
theorem dX6_fits_16 : decode cX6_fits 16 = .ok (.ixor, 1) := by decide +kernel
theorem dX6_fits_17 : decode cX6_fits 17 = .ok (.iand, 1) := by decide +kernel
theorem dX6_fits_18 : decode cX6_fits 18 = .ok (.ifCond .ne 7, 3) := by decide +kernel
theorem dX6_fits_21 : decode cX6_fits 21 = .ok (.iconst 1, 1) := by decide +kernel
theorem dX6_fits_22 : decode cX6_fits 22 = .ok (.goto 4, 3) := by decide +kernel
theorem dX6_fits_25 : decode cX6_fits 25 = .ok (.iconst 0, 1) := by decide +kernel
theorem dX6_fits_26 : decode cX6_fits 26 = .ok (.ireturn, 1) := by decide +kernel
theorem dX7_init_0 : decode cX7_init 0 = .ok (.aload_n 0, 1) := by decide +kernel
theorem dX7_init_1 : decode cX7_init 1 = .ok (.invokespecial 3, 3) := by decide +kernel
theorem dX7_init_4 : decode cX7_init 4 = .ok (.aload_n 0, 1) := by decide +kernel
theorem dX7_init_5 : decode cX7_init 5 = .ok (.new 9, 3) := by decide +kernel
theorem dX7_init_8 : decode cX7_init 8 = .ok (.dup, 1) := by decide +kernel
theorem dX7_init_9 : decode cX7_init 9 = .ok (.invokespecial 11, 3) := by decide +kernel
theorem dX7_init_12 : decode cX7_init 12 = .ok (.putfield 12, 3) := by decide +kernel
theorem dX7_init_15 : decode cX7_init 15 = .ok (.aload_n 0, 1) := by decide +kernel
theorem dX7_init_16 : decode cX7_init 16 = .ok (.iconst 0, 1) := by decide +kernel
theorem dX7_init_17 : decode cX7_init 17 = .ok (.putfield 18, 3) := by decide +kernel
theorem dX7_init_20 : decode cX7_init 20 = .ok (.aload_n 0, 1) := by decide +kernel
theorem dX7_init_21 : decode cX7_init 21 = .ok (.iconst 0, 1) := by decide +kernel
theorem dX7_init_22 : decode cX7_init 22 = .ok (.putfield 22, 3) := by decide +kernel
theorem dX7_init_25 : decode cX7_init 25 = .ok (.return_, 1) := by decide +kernel
theorem dX7_reads_0 : decode cX7_reads 0 = .ok (.aload_n 0, 1) := by decide +kernel
theorem dX7_reads_1 : decode cX7_reads 1 = .ok (.iconst 0, 1) := by decide +kernel
theorem dX7_reads_2 : decode cX7_reads 2 = .ok (.putfield 18, 3) := by decide +kernel
theorem dX7_reads_5 : decode cX7_reads 5 = .ok (.aload_n 0, 1) := by decide +kernel
theorem dX7_reads_6 : decode cX7_reads 6 = .ok (.getfield 12, 3) := by decide +kernel
theorem dX7_reads_9 : decode cX7_reads 9 = .ok (.iconst 0, 1) := by decide +kernel
theorem dX7_reads_10 : decode cX7_reads 10 = .ok (.putfield 25, 3) := by decide +kernel
theorem dX7_reads_13 : decode cX7_reads 13 = .ok (.aload_n 0, 1) := by decide +kernel
theorem dX7_reads_14 : decode cX7_reads 14 = .ok (.aload_n 1, 1) := by decide +kernel
theorem dX7_reads_15 : decode cX7_reads 15 = .ok (.invokevirtual 28, 3) := by decide +kernel
theorem dX7_reads_18 : decode cX7_reads 18 = .ok (.ifCond .ne 5, 3) := by decide +kernel
theorem dX7_reads_21 : decode cX7_reads 21 = .ok (.iconst 0, 1) := by decide +kernel
theorem dX7_reads_22 : decode cX7_reads 22 = .ok (.ireturn, 1) := by decide +kernel
theorem dX7_reads_23 : decode cX7_reads 23 = .ok (.iconst 0, 1) := by decide +kernel
theorem dX7_reads_24 : decode cX7_reads 24 = .ok (.istore_n 2, 1) := by decide +kernel
theorem dX7_reads_25 : decode cX7_reads 25 = .ok (.iload_n 2, 1) := by decide +kernel
theorem dX7_reads_26 : decode cX7_reads 26 = .ok (.bipush 10, 2) := by decide +kernel
theorem dX7_reads_28 : decode cX7_reads 28 = .ok (.if_icmp .gt 36, 3) := by decide +kernel
theorem dX7_reads_31 : decode cX7_reads 31 = .ok (.iload_n 2, 1) := by decide +kernel
theorem dX7_reads_32 : decode cX7_reads 32 = .ok (.ifCond .le 16, 3) := by decide +kernel
theorem dX7_reads_35 : decode cX7_reads 35 = .ok (.aload_n 0, 1) := by decide +kernel
theorem dX7_reads_36 : decode cX7_reads 36 = .ok (.getfield 18, 3) := by decide +kernel
theorem dX7_reads_39 : decode cX7_reads 39 = .ok (.aload_n 1, 1) := by decide +kernel
theorem dX7_reads_40 : decode cX7_reads 40 = .ok (.getfield 32, 3) := by decide +kernel
theorem dX7_reads_43 : decode cX7_reads 43 = .ok (.if_icmp .ne 5, 3) := by decide +kernel
theorem dX7_reads_46 : decode cX7_reads 46 = .ok (.iconst 1, 1) := by decide +kernel
theorem dX7_reads_47 : decode cX7_reads 47 = .ok (.ireturn, 1) := by decide +kernel
theorem dX7_reads_48 : decode cX7_reads 48 = .ok (.aload_n 0, 1) := by decide +kernel
theorem dX7_reads_49 : decode cX7_reads 49 = .ok (.aload_n 1, 1) := by decide +kernel
theorem dX7_reads_50 : decode cX7_reads 50 = .ok (.invokevirtual 37, 3) := by decide +kernel
theorem dX7_reads_53 : decode cX7_reads 53 = .ok (.ifCond .ne 5, 3) := by decide +kernel
theorem dX7_reads_56 : decode cX7_reads 56 = .ok (.iconst 0, 1) := by decide +kernel
theorem dX7_reads_57 : decode cX7_reads 57 = .ok (.ireturn, 1) := by decide +kernel
theorem dX7_reads_58 : decode cX7_reads 58 = .ok (.iinc 2 1, 3) := by decide +kernel
theorem dX7_reads_61 : decode cX7_reads 61 = .ok (.goto (-36), 3) := by decide +kernel
theorem dX7_reads_64 : decode cX7_reads 64 = .ok (.iconst 0, 1) := by decide +kernel
theorem dX7_reads_65 : decode cX7_reads 65 = .ok (.ireturn, 1) := by decide +kernel
theorem dX7_readsLaw_0 : decode cX7_readsLaw 0 = .ok (.aload_n 0, 1) := by decide +kernel
theorem dX7_readsLaw_1 : decode cX7_readsLaw 1 = .ok (.aload_n 1, 1) := by decide +kernel
theorem dX7_readsLaw_2 : decode cX7_readsLaw 2 = .ok (.bipush 104, 2) := by decide +kernel
theorem dX7_readsLaw_4 : decode cX7_readsLaw 4 = .ok (.invokevirtual 40, 3) := by decide +kernel
theorem dX7_readsLaw_7 : decode cX7_readsLaw 7 = .ok (.ifCond .ne 5, 3) := by decide +kernel
theorem dX7_readsLaw_10 : decode cX7_readsLaw 10 = .ok (.iconst 0, 1) := by decide +kernel
theorem dX7_readsLaw_11 : decode cX7_readsLaw 11 = .ok (.ireturn, 1) := by decide +kernel
theorem dX7_readsLaw_12 : decode cX7_readsLaw 12 = .ok (.aload_n 0, 1) := by decide +kernel
theorem dX7_readsLaw_13 : decode cX7_readsLaw 13 = .ok (.getfield 12, 3) := by decide +kernel
theorem dX7_readsLaw_16 : decode cX7_readsLaw 16 = .ok (.aload_n 0, 1) := by decide +kernel
theorem dX7_readsLaw_17 : decode cX7_readsLaw 17 = .ok (.aload_n 1, 1) := by decide +kernel
theorem dX7_readsLaw_18 : decode cX7_readsLaw 18 = .ok (.bipush 60, 2) := by decide +kernel
theorem dX7_readsLaw_20 : decode cX7_readsLaw 20 = .ok (.invokevirtual 44, 3) := by decide +kernel
theorem dX7_readsLaw_23 : decode cX7_readsLaw 23 = .ok (.putfield 48, 3) := by decide +kernel
theorem dX7_readsLaw_26 : decode cX7_readsLaw 26 = .ok (.aload_n 0, 1) := by decide +kernel
theorem dX7_readsLaw_27 : decode cX7_readsLaw 27 = .ok (.getfield 12, 3) := by decide +kernel
theorem dX7_readsLaw_30 : decode cX7_readsLaw 30 = .ok (.getfield 48, 3) := by decide +kernel
theorem dX7_readsLaw_33 : decode cX7_readsLaw 33 = .ok (.ifCond .lt 13, 3) := by decide +kernel
theorem dX7_readsLaw_36 : decode cX7_readsLaw 36 = .ok (.aload_n 0, 1) := by decide +kernel
theorem dX7_readsLaw_37 : decode cX7_readsLaw 37 = .ok (.aload_n 1, 1) := by decide +kernel
theorem dX7_readsLaw_38 : decode cX7_readsLaw 38 = .ok (.bipush 44, 2) := by decide +kernel
theorem dX7_readsLaw_40 : decode cX7_readsLaw 40 = .ok (.invokevirtual 40, 3) := by decide +kernel
theorem dX7_readsLaw_43 : decode cX7_readsLaw 43 = .ok (.ifCond .ne 5, 3) := by decide +kernel
theorem dX7_readsLaw_46 : decode cX7_readsLaw 46 = .ok (.iconst 0, 1) := by decide +kernel
theorem dX7_readsLaw_47 : decode cX7_readsLaw 47 = .ok (.ireturn, 1) := by decide +kernel
theorem dX7_readsLaw_48 : decode cX7_readsLaw 48 = .ok (.aload_n 0, 1) := by decide +kernel
theorem dX7_readsLaw_49 : decode cX7_readsLaw 49 = .ok (.getfield 12, 3) := by decide +kernel
theorem dX7_readsLaw_52 : decode cX7_readsLaw 52 = .ok (.aload_n 0, 1) := by decide +kernel
theorem dX7_readsLaw_53 : decode cX7_readsLaw 53 = .ok (.aload_n 1, 1) := by decide +kernel
theorem dX7_readsLaw_54 : decode cX7_readsLaw 54 = .ok (.bipush 20, 2) := by decide +kernel
theorem dX7_readsLaw_56 : decode cX7_readsLaw 56 = .ok (.invokevirtual 44, 3) := by decide +kernel
theorem dX7_readsLaw_59 : decode cX7_readsLaw 59 = .ok (.putfield 51, 3) := by decide +kernel
theorem dX7_readsLaw_62 : decode cX7_readsLaw 62 = .ok (.aload_n 0, 1) := by decide +kernel
theorem dX7_readsLaw_63 : decode cX7_readsLaw 63 = .ok (.getfield 12, 3) := by decide +kernel
theorem dX7_readsLaw_66 : decode cX7_readsLaw 66 = .ok (.getfield 51, 3) := by decide +kernel
theorem dX7_readsLaw_69 : decode cX7_readsLaw 69 = .ok (.ifCond .lt 17, 3) := by decide +kernel
theorem dX7_readsLaw_72 : decode cX7_readsLaw 72 = .ok (.aload_n 0, 1) := by decide +kernel
theorem dX7_readsLaw_73 : decode cX7_readsLaw 73 = .ok (.aload_n 1, 1) := by decide +kernel
theorem dX7_readsLaw_74 : decode cX7_readsLaw 74 = .ok (.bipush 59, 2) := by decide +kernel
theorem dX7_readsLaw_76 : decode cX7_readsLaw 76 = .ok (.invokevirtual 40, 3) := by decide +kernel
theorem dX7_readsLaw_79 : decode cX7_readsLaw 79 = .ok (.ifCond .eq 7, 3) := by decide +kernel
theorem dX7_readsLaw_82 : decode cX7_readsLaw 82 = .ok (.iconst 1, 1) := by decide +kernel
theorem dX7_readsLaw_83 : decode cX7_readsLaw 83 = .ok (.goto 4, 3) := by decide +kernel
theorem dX7_readsLaw_86 : decode cX7_readsLaw 86 = .ok (.iconst 0, 1) := by decide +kernel
theorem dX7_readsLaw_87 : decode cX7_readsLaw 87 = .ok (.ireturn, 1) := by decide +kernel
theorem dX7_readsPage_0 : decode cX7_readsPage 0 = .ok (.aload_n 1, 1) := by decide +kernel
theorem dX7_readsPage_1 : decode cX7_readsPage 1 = .ok (.aload_n 0, 1) := by decide +kernel
theorem dX7_readsPage_2 : decode cX7_readsPage 2 = .ok (.getfield 18, 3) := by decide +kernel
theorem dX7_readsPage_5 : decode cX7_readsPage 5 = .ok (.invokevirtual 54, 3) := by decide +kernel
theorem dX7_readsPage_8 : decode cX7_readsPage 8 = .ok (.invokestatic 57, 3) := by decide +kernel
theorem dX7_readsPage_11 : decode cX7_readsPage 11 = .ok (.istore_n 2, 1) := by decide +kernel
theorem dX7_readsPage_12 : decode cX7_readsPage 12 = .ok (.iload_n 2, 1) := by decide +kernel
theorem dX7_readsPage_13 : decode cX7_readsPage 13 = .ok (.ldc 60, 2) := by decide +kernel
theorem dX7_readsPage_15 : decode cX7_readsPage 15 = .ok (.if_icmp .ne 9, 3) := by decide +kernel
theorem dX7_readsPage_18 : decode cX7_readsPage 18 = .ok (.aload_n 0, 1) := by decide +kernel
theorem dX7_readsPage_19 : decode cX7_readsPage 19 = .ok (.iconst 1, 1) := by decide +kernel
theorem dX7_readsPage_20 : decode cX7_readsPage 20 = .ok (.invokevirtual 61, 3) := by decide +kernel
theorem dX7_readsPage_23 : decode cX7_readsPage 23 = .ok (.ireturn, 1) := by decide +kernel
theorem dX7_readsPage_24 : decode cX7_readsPage 24 = .ok (.aload_n 0, 1) := by decide +kernel
theorem dX7_readsPage_25 : decode cX7_readsPage 25 = .ok (.getfield 12, 3) := by decide +kernel
theorem dX7_readsPage_28 : decode cX7_readsPage 28 = .ok (.getfield 25, 3) := by decide +kernel
theorem dX7_readsPage_31 : decode cX7_readsPage 31 = .ok (.bipush 10, 2) := by decide +kernel
theorem dX7_readsPage_33 : decode cX7_readsPage 33 = .ok (.if_icmp .lt 9, 3) := by decide +kernel
theorem dX7_readsPage_36 : decode cX7_readsPage 36 = .ok (.aload_n 0, 1) := by decide +kernel
theorem dX7_readsPage_37 : decode cX7_readsPage 37 = .ok (.iconst 3, 1) := by decide +kernel
theorem dX7_readsPage_38 : decode cX7_readsPage 38 = .ok (.invokevirtual 61, 3) := by decide +kernel
theorem dX7_readsPage_41 : decode cX7_readsPage 41 = .ok (.ireturn, 1) := by decide +kernel
theorem dX7_readsPage_42 : decode cX7_readsPage 42 = .ok (.aload_n 0, 1) := by decide +kernel
theorem dX7_readsPage_43 : decode cX7_readsPage 43 = .ok (.dup, 1) := by decide +kernel
theorem dX7_readsPage_44 : decode cX7_readsPage 44 = .ok (.getfield 18, 3) := by decide +kernel
theorem dX7_readsPage_47 : decode cX7_readsPage 47 = .ok (.iconst 1, 1) := by decide +kernel
theorem dX7_readsPage_48 : decode cX7_readsPage 48 = .ok (.iadd, 1) := by decide +kernel
theorem dX7_readsPage_49 : decode cX7_readsPage 49 = .ok (.putfield 18, 3) := by decide +kernel
theorem dX7_readsPage_52 : decode cX7_readsPage 52 = .ok (.aload_n 0, 1) := by decide +kernel
theorem dX7_readsPage_53 : decode cX7_readsPage 53 = .ok (.aload_n 1, 1) := by decide +kernel
theorem dX7_readsPage_54 : decode cX7_readsPage 54 = .ok (.bipush 30, 2) := by decide +kernel
theorem dX7_readsPage_56 : decode cX7_readsPage 56 = .ok (.invokevirtual 44, 3) := by decide +kernel
theorem dX7_readsPage_59 : decode cX7_readsPage 59 = .ok (.istore_n 3, 1) := by decide +kernel
theorem dX7_readsPage_60 : decode cX7_readsPage 60 = .ok (.iload_n 3, 1) := by decide +kernel
theorem dX7_readsPage_61 : decode cX7_readsPage 61 = .ok (.ifCond .lt 13, 3) := by decide +kernel
theorem dX7_readsPage_64 : decode cX7_readsPage 64 = .ok (.aload_n 0, 1) := by decide +kernel
theorem dX7_readsPage_65 : decode cX7_readsPage 65 = .ok (.aload_n 1, 1) := by decide +kernel
theorem dX7_readsPage_66 : decode cX7_readsPage 66 = .ok (.bipush 44, 2) := by decide +kernel
theorem dX7_readsPage_68 : decode cX7_readsPage 68 = .ok (.invokevirtual 40, 3) := by decide +kernel
theorem dX7_readsPage_71 : decode cX7_readsPage 71 = .ok (.ifCond .ne 5, 3) := by decide +kernel
theorem dX7_readsPage_74 : decode cX7_readsPage 74 = .ok (.iconst 0, 1) := by decide +kernel
theorem dX7_readsPage_75 : decode cX7_readsPage 75 = .ok (.ireturn, 1) := by decide +kernel
theorem dX7_readsPage_76 : decode cX7_readsPage 76 = .ok (.aload_n 0, 1) := by decide +kernel
theorem dX7_readsPage_77 : decode cX7_readsPage 77 = .ok (.aload_n 1, 1) := by decide +kernel
theorem dX7_readsPage_78 : decode cX7_readsPage 78 = .ok (.bipush 30, 2) := by decide +kernel
theorem dX7_readsPage_80 : decode cX7_readsPage 80 = .ok (.invokevirtual 44, 3) := by decide +kernel
theorem dX7_readsPage_83 : decode cX7_readsPage 83 = .ok (.istore 4, 2) := by decide +kernel
theorem dX7_readsPage_85 : decode cX7_readsPage 85 = .ok (.iload 4, 2) := by decide +kernel
theorem dX7_readsPage_87 : decode cX7_readsPage 87 = .ok (.ifCond .lt 13, 3) := by decide +kernel
theorem dX7_readsPage_90 : decode cX7_readsPage 90 = .ok (.aload_n 0, 1) := by decide +kernel
theorem dX7_readsPage_91 : decode cX7_readsPage 91 = .ok (.aload_n 1, 1) := by decide +kernel
theorem dX7_readsPage_92 : decode cX7_readsPage 92 = .ok (.bipush 44, 2) := by decide +kernel
theorem dX7_readsPage_94 : decode cX7_readsPage 94 = .ok (.invokevirtual 40, 3) := by decide +kernel
theorem dX7_readsPage_97 : decode cX7_readsPage 97 = .ok (.ifCond .ne 5, 3) := by decide +kernel
theorem dX7_readsPage_100 : decode cX7_readsPage 100 = .ok (.iconst 0, 1) := by decide +kernel
theorem dX7_readsPage_101 : decode cX7_readsPage 101 = .ok (.ireturn, 1) := by decide +kernel
theorem dX7_readsPage_102 : decode cX7_readsPage 102 = .ok (.aload_n 0, 1) := by decide +kernel
theorem dX7_readsPage_103 : decode cX7_readsPage 103 = .ok (.aload_n 1, 1) := by decide +kernel
theorem dX7_readsPage_104 : decode cX7_readsPage 104 = .ok (.bipush 30, 2) := by decide +kernel
theorem dX7_readsPage_106 : decode cX7_readsPage 106 = .ok (.invokevirtual 44, 3) := by decide +kernel
theorem dX7_readsPage_109 : decode cX7_readsPage 109 = .ok (.istore 5, 2) := by decide +kernel
theorem dX7_readsPage_111 : decode cX7_readsPage 111 = .ok (.iload 5, 2) := by decide +kernel
theorem dX7_readsPage_113 : decode cX7_readsPage 113 = .ok (.ifCond .lt 13, 3) := by decide +kernel
theorem dX7_readsPage_116 : decode cX7_readsPage 116 = .ok (.aload_n 0, 1) := by decide +kernel
theorem dX7_readsPage_117 : decode cX7_readsPage 117 = .ok (.aload_n 1, 1) := by decide +kernel
theorem dX7_readsPage_118 : decode cX7_readsPage 118 = .ok (.bipush 59, 2) := by decide +kernel
theorem dX7_readsPage_120 : decode cX7_readsPage 120 = .ok (.invokevirtual 40, 3) := by decide +kernel
theorem dX7_readsPage_123 : decode cX7_readsPage 123 = .ok (.ifCond .ne 5, 3) := by decide +kernel
theorem dX7_readsPage_126 : decode cX7_readsPage 126 = .ok (.iconst 0, 1) := by decide +kernel
theorem dX7_readsPage_127 : decode cX7_readsPage 127 = .ok (.ireturn, 1) := by decide +kernel
theorem dX7_readsPage_128 : decode cX7_readsPage 128 = .ok (.aload_n 0, 1) := by decide +kernel
theorem dX7_readsPage_129 : decode cX7_readsPage 129 = .ok (.getfield 12, 3) := by decide +kernel
theorem dX7_readsPage_132 : decode cX7_readsPage 132 = .ok (.aload_n 0, 1) := by decide +kernel
theorem dX7_readsPage_133 : decode cX7_readsPage 133 = .ok (.getfield 12, 3) := by decide +kernel
theorem dX7_readsPage_136 : decode cX7_readsPage 136 = .ok (.getfield 25, 3) := by decide +kernel
theorem dX7_readsPage_139 : decode cX7_readsPage 139 = .ok (.iload_n 2, 1) := by decide +kernel
theorem dX7_readsPage_140 : decode cX7_readsPage 140 = .ok (.iload_n 3, 1) := by decide +kernel
theorem dX7_readsPage_141 : decode cX7_readsPage 141 = .ok (.iload 4, 2) := by decide +kernel
theorem dX7_readsPage_143 : decode cX7_readsPage 143 = .ok (.iload 5, 2) := by decide +kernel
theorem dX7_readsPage_145 : decode cX7_readsPage 145 = .ok (.invokevirtual 65, 3) := by decide +kernel
theorem dX7_readsPage_148 : decode cX7_readsPage 148 = .ok (.iconst 1, 1) := by decide +kernel
theorem dX7_readsPage_149 : decode cX7_readsPage 149 = .ok (.ireturn, 1) := by decide +kernel
theorem dX7_fails_0 : decode cX7_fails 0 = .ok (.aload_n 0, 1) := by decide +kernel
theorem dX7_fails_1 : decode cX7_fails 1 = .ok (.iload_n 1, 1) := by decide +kernel
theorem dX7_fails_2 : decode cX7_fails 2 = .ok (.putfield 22, 3) := by decide +kernel
theorem dX7_fails_5 : decode cX7_fails 5 = .ok (.iconst 0, 1) := by decide +kernel
theorem dX7_fails_6 : decode cX7_fails 6 = .ok (.ireturn, 1) := by decide +kernel
theorem dX7_readsByte_0 : decode cX7_readsByte 0 = .ok (.aload_n 1, 1) := by decide +kernel
theorem dX7_readsByte_1 : decode cX7_readsByte 1 = .ok (.aload_n 0, 1) := by decide +kernel
theorem dX7_readsByte_2 : decode cX7_readsByte 2 = .ok (.getfield 18, 3) := by decide +kernel
theorem dX7_readsByte_5 : decode cX7_readsByte 5 = .ok (.invokevirtual 54, 3) := by decide +kernel
theorem dX7_readsByte_8 : decode cX7_readsByte 8 = .ok (.iload_n 2, 1) := by decide +kernel
theorem dX7_readsByte_9 : decode cX7_readsByte 9 = .ok (.if_icmp .eq 9, 3) := by decide +kernel
theorem dX7_readsByte_12 : decode cX7_readsByte 12 = .ok (.aload_n 0, 1) := by decide +kernel
theorem dX7_readsByte_13 : decode cX7_readsByte 13 = .ok (.iconst 1, 1) := by decide +kernel
theorem dX7_readsByte_14 : decode cX7_readsByte 14 = .ok (.invokevirtual 61, 3) := by decide +kernel
theorem dX7_readsByte_17 : decode cX7_readsByte 17 = .ok (.ireturn, 1) := by decide +kernel
theorem dX7_readsByte_18 : decode cX7_readsByte 18 = .ok (.aload_n 0, 1) := by decide +kernel
theorem dX7_readsByte_19 : decode cX7_readsByte 19 = .ok (.dup, 1) := by decide +kernel
theorem dX7_readsByte_20 : decode cX7_readsByte 20 = .ok (.getfield 18, 3) := by decide +kernel
theorem dX7_readsByte_23 : decode cX7_readsByte 23 = .ok (.iconst 1, 1) := by decide +kernel
theorem dX7_readsByte_24 : decode cX7_readsByte 24 = .ok (.iadd, 1) := by decide +kernel
theorem dX7_readsByte_25 : decode cX7_readsByte 25 = .ok (.putfield 18, 3) := by decide +kernel
theorem dX7_readsByte_28 : decode cX7_readsByte 28 = .ok (.iconst 1, 1) := by decide +kernel
theorem dX7_readsByte_29 : decode cX7_readsByte 29 = .ok (.ireturn, 1) := by decide +kernel
theorem dX7_readNumber_0 : decode cX7_readNumber 0 = .ok (.aload_n 1, 1) := by decide +kernel
theorem dX7_readNumber_1 : decode cX7_readNumber 1 = .ok (.aload_n 0, 1) := by decide +kernel
theorem dX7_readNumber_2 : decode cX7_readNumber 2 = .ok (.getfield 18, 3) := by decide +kernel
theorem dX7_readNumber_5 : decode cX7_readNumber 5 = .ok (.invokevirtual 69, 3) := by decide +kernel
theorem dX7_readNumber_8 : decode cX7_readNumber 8 = .ok (.istore_n 3, 1) := by decide +kernel
theorem dX7_readNumber_9 : decode cX7_readNumber 9 = .ok (.iload_n 3, 1) := by decide +kernel
theorem dX7_readNumber_10 : decode cX7_readNumber 10 = .ok (.iconst 1, 1) := by decide +kernel
theorem dX7_readNumber_11 : decode cX7_readNumber 11 = .ok (.if_icmp .lt 8, 3) := by decide +kernel
theorem dX7_readNumber_14 : decode cX7_readNumber 14 = .ok (.iload_n 3, 1) := by decide +kernel
theorem dX7_readNumber_15 : decode cX7_readNumber 15 = .ok (.iconst 2, 1) := by decide +kernel
theorem dX7_readNumber_16 : decode cX7_readNumber 16 = .ok (.if_icmp .le 12, 3) := by decide +kernel
theorem dX7_readNumber_19 : decode cX7_readNumber 19 = .ok (.aload_n 0, 1) := by decide +kernel
theorem dX7_readNumber_20 : decode cX7_readNumber 20 = .ok (.iconst 1, 1) := by decide +kernel
theorem dX7_readNumber_21 : decode cX7_readNumber 21 = .ok (.invokevirtual 61, 3) := by decide +kernel
theorem dX7_readNumber_24 : decode cX7_readNumber 24 = .ok (.pop, 1) := by decide +kernel
theorem dX7_readNumber_25 : decode cX7_readNumber 25 = .ok (.ldc 60, 2) := by decide +kernel
theorem dX7_readNumber_27 : decode cX7_readNumber 27 = .ok (.ireturn, 1) := by decide +kernel
theorem dX7_readNumber_28 : decode cX7_readNumber 28 = .ok (.aload_n 1, 1) := by decide +kernel
theorem dX7_readNumber_29 : decode cX7_readNumber 29 = .ok (.aload_n 0, 1) := by decide +kernel
theorem dX7_readNumber_30 : decode cX7_readNumber 30 = .ok (.getfield 18, 3) := by decide +kernel
theorem dX7_readNumber_33 : decode cX7_readNumber 33 = .ok (.invokevirtual 54, 3) := by decide +kernel
theorem dX7_readNumber_36 : decode cX7_readNumber 36 = .ok (.bipush 48, 2) := by decide +kernel
theorem dX7_readNumber_38 : decode cX7_readNumber 38 = .ok (.isub, 1) := by decide +kernel
theorem dX7_readNumber_39 : decode cX7_readNumber 39 = .ok (.istore 4, 2) := by decide +kernel
theorem dX7_readNumber_41 : decode cX7_readNumber 41 = .ok (.iload_n 3, 1) := by decide +kernel
theorem dX7_readNumber_42 : decode cX7_readNumber 42 = .ok (.iconst 2, 1) := by decide +kernel
theorem dX7_readNumber_43 : decode cX7_readNumber 43 = .ok (.if_icmp .ne 24, 3) := by decide +kernel
theorem dX7_readNumber_46 : decode cX7_readNumber 46 = .ok (.bipush 10, 2) := by decide +kernel
theorem dX7_readNumber_48 : decode cX7_readNumber 48 = .ok (.iload 4, 2) := by decide +kernel
theorem dX7_readNumber_50 : decode cX7_readNumber 50 = .ok (.imul, 1) := by decide +kernel
theorem dX7_readNumber_51 : decode cX7_readNumber 51 = .ok (.aload_n 1, 1) := by decide +kernel
theorem dX7_readNumber_52 : decode cX7_readNumber 52 = .ok (.aload_n 0, 1) := by decide +kernel
theorem dX7_readNumber_53 : decode cX7_readNumber 53 = .ok (.getfield 18, 3) := by decide +kernel
theorem dX7_readNumber_56 : decode cX7_readNumber 56 = .ok (.iconst 1, 1) := by decide +kernel
theorem dX7_readNumber_57 : decode cX7_readNumber 57 = .ok (.iadd, 1) := by decide +kernel
theorem dX7_readNumber_58 : decode cX7_readNumber 58 = .ok (.invokevirtual 54, 3) := by decide +kernel
theorem dX7_readNumber_61 : decode cX7_readNumber 61 = .ok (.iadd, 1) := by decide +kernel
theorem dX7_readNumber_62 : decode cX7_readNumber 62 = .ok (.bipush 48, 2) := by decide +kernel
theorem dX7_readNumber_64 : decode cX7_readNumber 64 = .ok (.isub, 1) := by decide +kernel
theorem dX7_readNumber_65 : decode cX7_readNumber 65 = .ok (.istore 4, 2) := by decide +kernel
theorem dX7_readNumber_67 : decode cX7_readNumber 67 = .ok (.iload 4, 2) := by decide +kernel
theorem dX7_readNumber_69 : decode cX7_readNumber 69 = .ok (.iload_n 2, 1) := by decide +kernel
theorem dX7_readNumber_70 : decode cX7_readNumber 70 = .ok (.if_icmp .le 12, 3) := by decide +kernel
theorem dX7_readNumber_73 : decode cX7_readNumber 73 = .ok (.aload_n 0, 1) := by decide +kernel
theorem dX7_readNumber_74 : decode cX7_readNumber 74 = .ok (.iconst 2, 1) := by decide +kernel
theorem dX7_readNumber_75 : decode cX7_readNumber 75 = .ok (.invokevirtual 61, 3) := by decide +kernel
theorem dX7_readNumber_78 : decode cX7_readNumber 78 = .ok (.pop, 1) := by decide +kernel
theorem dX7_readNumber_79 : decode cX7_readNumber 79 = .ok (.ldc 60, 2) := by decide +kernel
theorem dX7_readNumber_81 : decode cX7_readNumber 81 = .ok (.ireturn, 1) := by decide +kernel
theorem dX7_readNumber_82 : decode cX7_readNumber 82 = .ok (.aload_n 0, 1) := by decide +kernel
theorem dX7_readNumber_83 : decode cX7_readNumber 83 = .ok (.dup, 1) := by decide +kernel
theorem dX7_readNumber_84 : decode cX7_readNumber 84 = .ok (.getfield 18, 3) := by decide +kernel
theorem dX7_readNumber_87 : decode cX7_readNumber 87 = .ok (.iload_n 3, 1) := by decide +kernel
theorem dX7_readNumber_88 : decode cX7_readNumber 88 = .ok (.iadd, 1) := by decide +kernel
theorem dX7_readNumber_89 : decode cX7_readNumber 89 = .ok (.putfield 18, 3) := by decide +kernel
theorem dX7_readNumber_92 : decode cX7_readNumber 92 = .ok (.iload 4, 2) := by decide +kernel
theorem dX7_readNumber_94 : decode cX7_readNumber 94 = .ok (.ireturn, 1) := by decide +kernel
theorem dX7_kindOfLetter_0 : decode cX7_kindOfLetter 0 = .ok (.iload_n 0, 1) := by decide +kernel
theorem dX7_kindOfLetter_1 : decode cX7_kindOfLetter 1 = .ok (.lookupswitch 61 #[(99, 57), (102, 53), (103, 59), (112, 51), (114, 55)], 51) := by decide +kernel
theorem dX7_kindOfLetter_52 : decode cX7_kindOfLetter 52 = .ok (.iconst 1, 1) := by decide +kernel
theorem dX7_kindOfLetter_53 : decode cX7_kindOfLetter 53 = .ok (.ireturn, 1) := by decide +kernel
theorem dX7_kindOfLetter_54 : decode cX7_kindOfLetter 54 = .ok (.iconst 2, 1) := by decide +kernel
theorem dX7_kindOfLetter_55 : decode cX7_kindOfLetter 55 = .ok (.ireturn, 1) := by decide +kernel
theorem dX7_kindOfLetter_56 : decode cX7_kindOfLetter 56 = .ok (.iconst 3, 1) := by decide +kernel
theorem dX7_kindOfLetter_57 : decode cX7_kindOfLetter 57 = .ok (.ireturn, 1) := by decide +kernel
theorem dX7_kindOfLetter_58 : decode cX7_kindOfLetter 58 = .ok (.iconst 4, 1) := by decide +kernel
theorem dX7_kindOfLetter_59 : decode cX7_kindOfLetter 59 = .ok (.ireturn, 1) := by decide +kernel
theorem dX7_kindOfLetter_60 : decode cX7_kindOfLetter 60 = .ok (.iconst 5, 1) := by decide +kernel
theorem dX7_kindOfLetter_61 : decode cX7_kindOfLetter 61 = .ok (.ireturn, 1) := by decide +kernel
theorem dX7_kindOfLetter_62 : decode cX7_kindOfLetter 62 = .ok (.ldc 60, 2) := by decide +kernel
theorem dX7_kindOfLetter_64 : decode cX7_kindOfLetter 64 = .ok (.ireturn, 1) := by decide +kernel
theorem dX8_init_0 : decode cX8_init 0 = .ok (.aload_n 0, 1) := by decide +kernel
theorem dX8_init_1 : decode cX8_init 1 = .ok (.invokespecial 3, 3) := by decide +kernel
theorem dX8_init_4 : decode cX8_init 4 = .ok (.aload_n 0, 1) := by decide +kernel
theorem dX8_init_5 : decode cX8_init 5 = .ok (.bipush 8, 2) := by decide +kernel
theorem dX8_init_7 : decode cX8_init 7 = .ok (.bipush 40, 2) := by decide +kernel
theorem dX8_init_9 : decode cX8_init 9 = .ok (.multianewarray 9 2, 4) := by decide +kernel
theorem dX8_init_13 : decode cX8_init 13 = .ok (.putfield 11, 3) := by decide +kernel
theorem dX8_init_16 : decode cX8_init 16 = .ok (.aload_n 0, 1) := by decide +kernel
theorem dX8_init_17 : decode cX8_init 17 = .ok (.bipush 8, 2) := by decide +kernel
theorem dX8_init_19 : decode cX8_init 19 = .ok (.newarray .int, 2) := by decide +kernel
theorem dX8_init_21 : decode cX8_init 21 = .ok (.putfield 16, 3) := by decide +kernel
theorem dX8_init_24 : decode cX8_init 24 = .ok (.aload_n 0, 1) := by decide +kernel
theorem dX8_init_25 : decode cX8_init 25 = .ok (.bipush 8, 2) := by decide +kernel
theorem dX8_init_27 : decode cX8_init 27 = .ok (.newarray .int, 2) := by decide +kernel
theorem dX8_init_29 : decode cX8_init 29 = .ok (.putfield 20, 3) := by decide +kernel
theorem dX8_init_32 : decode cX8_init 32 = .ok (.aload_n 0, 1) := by decide +kernel
theorem dX8_init_33 : decode cX8_init 33 = .ok (.getfield 20, 3) := by decide +kernel
theorem dX8_init_36 : decode cX8_init 36 = .ok (.iconst (-1), 1) := by decide +kernel
theorem dX8_init_37 : decode cX8_init 37 = .ok (.invokestatic 23, 3) := by decide +kernel
theorem dX8_init_40 : decode cX8_init 40 = .ok (.return_, 1) := by decide +kernel
theorem dX8_isMissing_0 : decode cX8_isMissing 0 = .ok (.aload_n 0, 1) := by decide +kernel
theorem dX8_isMissing_1 : decode cX8_isMissing 1 = .ok (.getfield 20, 3) := by decide +kernel
theorem dX8_isMissing_4 : decode cX8_isMissing 4 = .ok (.iload_n 1, 1) := by decide +kernel
theorem dX8_isMissing_5 : decode cX8_isMissing 5 = .ok (.iaload, 1) := by decide +kernel
theorem dX8_isMissing_6 : decode cX8_isMissing 6 = .ok (.iconst (-1), 1) := by decide +kernel
theorem dX8_isMissing_7 : decode cX8_isMissing 7 = .ok (.if_icmp .ne 7, 3) := by decide +kernel
theorem dX8_isMissing_10 : decode cX8_isMissing 10 = .ok (.iconst 1, 1) := by decide +kernel
theorem dX8_isMissing_11 : decode cX8_isMissing 11 = .ok (.goto 4, 3) := by decide +kernel
theorem dX8_isMissing_14 : decode cX8_isMissing 14 = .ok (.iconst 0, 1) := by decide +kernel
theorem dX8_isMissing_15 : decode cX8_isMissing 15 = .ok (.ireturn, 1) := by decide +kernel
theorem dX8_holds_0 : decode cX8_holds 0 = .ok (.iload_n 2, 1) := by decide +kernel
theorem dX8_holds_1 : decode cX8_holds 1 = .ok (.ifCond .lt 33, 3) := by decide +kernel
theorem dX8_holds_4 : decode cX8_holds 4 = .ok (.iload_n 3, 1) := by decide +kernel
theorem dX8_holds_5 : decode cX8_holds 5 = .ok (.ifCond .lt 29, 3) := by decide +kernel
theorem dX8_holds_8 : decode cX8_holds 8 = .ok (.iload_n 3, 1) := by decide +kernel
theorem dX8_holds_9 : decode cX8_holds 9 = .ok (.aload_n 0, 1) := by decide +kernel
theorem dX8_holds_10 : decode cX8_holds 10 = .ok (.getfield 20, 3) := by decide +kernel
theorem dX8_holds_13 : decode cX8_holds 13 = .ok (.iload_n 1, 1) := by decide +kernel
theorem dX8_holds_14 : decode cX8_holds 14 = .ok (.iaload, 1) := by decide +kernel
theorem dX8_holds_15 : decode cX8_holds 15 = .ok (.if_icmp .gt 19, 3) := by decide +kernel
theorem dX8_holds_18 : decode cX8_holds 18 = .ok (.iload_n 2, 1) := by decide +kernel
theorem dX8_holds_19 : decode cX8_holds 19 = .ok (.aload_n 0, 1) := by decide +kernel
theorem dX8_holds_20 : decode cX8_holds 20 = .ok (.getfield 20, 3) := by decide +kernel
theorem dX8_holds_23 : decode cX8_holds 23 = .ok (.iload_n 1, 1) := by decide +kernel
theorem dX8_holds_24 : decode cX8_holds 24 = .ok (.iaload, 1) := by decide +kernel
theorem dX8_holds_25 : decode cX8_holds 25 = .ok (.iload_n 3, 1) := by decide +kernel
theorem dX8_holds_26 : decode cX8_holds 26 = .ok (.isub, 1) := by decide +kernel
theorem dX8_holds_27 : decode cX8_holds 27 = .ok (.if_icmp .gt 7, 3) := by decide +kernel
theorem dX8_holds_30 : decode cX8_holds 30 = .ok (.iconst 1, 1) := by decide +kernel
theorem dX8_holds_31 : decode cX8_holds 31 = .ok (.goto 4, 3) := by decide +kernel
theorem dX8_holds_34 : decode cX8_holds 34 = .ok (.iconst 0, 1) := by decide +kernel
theorem dX8_holds_35 : decode cX8_holds 35 = .ok (.ireturn, 1) := by decide +kernel
theorem dX8_lay_0 : decode cX8_lay 0 = .ok (.aload_n 0, 1) := by decide +kernel
theorem dX8_lay_1 : decode cX8_lay 1 = .ok (.getfield 11, 3) := by decide +kernel
theorem dX8_lay_4 : decode cX8_lay 4 = .ok (.iload_n 1, 1) := by decide +kernel
theorem dX8_lay_5 : decode cX8_lay 5 = .ok (.aaload, 1) := by decide +kernel
theorem dX8_lay_6 : decode cX8_lay 6 = .ok (.iconst 0, 1) := by decide +kernel
theorem dX8_lay_7 : decode cX8_lay 7 = .ok (.invokestatic 23, 3) := by decide +kernel
theorem dX8_lay_10 : decode cX8_lay 10 = .ok (.aload_n 0, 1) := by decide +kernel
theorem dX8_lay_11 : decode cX8_lay 11 = .ok (.getfield 16, 3) := by decide +kernel
theorem dX8_lay_14 : decode cX8_lay 14 = .ok (.iload_n 1, 1) := by decide +kernel
theorem dX8_lay_15 : decode cX8_lay 15 = .ok (.iload_n 2, 1) := by decide +kernel
theorem dX8_lay_16 : decode cX8_lay 16 = .ok (.iastore, 1) := by decide +kernel
theorem dX8_lay_17 : decode cX8_lay 17 = .ok (.aload_n 0, 1) := by decide +kernel
theorem dX8_lay_18 : decode cX8_lay 18 = .ok (.getfield 20, 3) := by decide +kernel
theorem dX8_lay_21 : decode cX8_lay 21 = .ok (.iload_n 1, 1) := by decide +kernel
theorem dX8_lay_22 : decode cX8_lay 22 = .ok (.iload_n 3, 1) := by decide +kernel
theorem dX8_lay_23 : decode cX8_lay 23 = .ok (.iastore, 1) := by decide +kernel
theorem dX8_lay_24 : decode cX8_lay 24 = .ok (.return_, 1) := by decide +kernel
theorem dX8_lose_0 : decode cX8_lose 0 = .ok (.aload_n 0, 1) := by decide +kernel
theorem dX8_lose_1 : decode cX8_lose 1 = .ok (.getfield 20, 3) := by decide +kernel
theorem dX8_lose_4 : decode cX8_lose 4 = .ok (.iload_n 1, 1) := by decide +kernel
theorem dX8_lose_5 : decode cX8_lose 5 = .ok (.iaload, 1) := by decide +kernel
theorem dX8_lose_6 : decode cX8_lose 6 = .ok (.istore_n 2, 1) := by decide +kernel
theorem dX8_lose_7 : decode cX8_lose 7 = .ok (.aload_n 0, 1) := by decide +kernel
theorem dX8_lose_8 : decode cX8_lose 8 = .ok (.getfield 20, 3) := by decide +kernel
theorem dX8_lose_11 : decode cX8_lose 11 = .ok (.iload_n 1, 1) := by decide +kernel
theorem dX8_lose_12 : decode cX8_lose 12 = .ok (.iconst (-1), 1) := by decide +kernel
theorem dX8_lose_13 : decode cX8_lose 13 = .ok (.iastore, 1) := by decide +kernel
theorem dX8_lose_14 : decode cX8_lose 14 = .ok (.iload_n 2, 1) := by decide +kernel
theorem dX8_lose_15 : decode cX8_lose 15 = .ok (.ireturn, 1) := by decide +kernel
theorem dX8_write_0 : decode cX8_write 0 = .ok (.iload_n 3, 1) := by decide +kernel
theorem dX8_write_1 : decode cX8_write 1 = .ok (.istore 4, 2) := by decide +kernel
theorem dX8_write_3 : decode cX8_write 3 = .ok (.aload_n 0, 1) := by decide +kernel
theorem dX8_write_4 : decode cX8_write 4 = .ok (.getfield 16, 3) := by decide +kernel
theorem dX8_write_7 : decode cX8_write 7 = .ok (.iload_n 1, 1) := by decide +kernel
theorem dX8_write_8 : decode cX8_write 8 = .ok (.iaload, 1) := by decide +kernel
theorem dX8_write_9 : decode cX8_write 9 = .ok (.ifCond .ne 10, 3) := by decide +kernel
theorem dX8_write_12 : decode cX8_write 12 = .ok (.iload_n 3, 1) := by decide +kernel
theorem dX8_write_13 : decode cX8_write 13 = .ok (.i2b, 1) := by decide +kernel
theorem dX8_write_14 : decode cX8_write 14 = .ok (.istore 4, 2) := by decide +kernel
theorem dX8_write_16 : decode cX8_write 16 = .ok (.goto 17, 3) := by decide +kernel
theorem dX8_write_19 : decode cX8_write 19 = .ok (.aload_n 0, 1) := by decide +kernel
theorem dX8_write_20 : decode cX8_write 20 = .ok (.getfield 16, 3) := by decide +kernel
theorem dX8_write_23 : decode cX8_write 23 = .ok (.iload_n 1, 1) := by decide +kernel
theorem dX8_write_24 : decode cX8_write 24 = .ok (.iaload, 1) := by decide +kernel
theorem dX8_write_25 : decode cX8_write 25 = .ok (.iconst 1, 1) := by decide +kernel
theorem dX8_write_26 : decode cX8_write 26 = .ok (.if_icmp .ne 7, 3) := by decide +kernel
theorem dX8_write_29 : decode cX8_write 29 = .ok (.iload_n 3, 1) := by decide +kernel
theorem dX8_write_30 : decode cX8_write 30 = .ok (.i2s, 1) := by decide +kernel
theorem dX8_write_31 : decode cX8_write 31 = .ok (.istore 4, 2) := by decide +kernel
theorem dX8_write_33 : decode cX8_write 33 = .ok (.aload_n 0, 1) := by decide +kernel
theorem dX8_write_34 : decode cX8_write 34 = .ok (.getfield 11, 3) := by decide +kernel
theorem dX8_write_37 : decode cX8_write 37 = .ok (.iload_n 1, 1) := by decide +kernel
theorem dX8_write_38 : decode cX8_write 38 = .ok (.aaload, 1) := by decide +kernel
theorem dX8_write_39 : decode cX8_write 39 = .ok (.iload_n 2, 1) := by decide +kernel
theorem dX8_write_40 : decode cX8_write 40 = .ok (.iload 4, 2) := by decide +kernel
theorem dX8_write_42 : decode cX8_write 42 = .ok (.iastore, 1) := by decide +kernel
theorem dX8_write_43 : decode cX8_write 43 = .ok (.iload 4, 2) := by decide +kernel
theorem dX8_write_45 : decode cX8_write 45 = .ok (.ireturn, 1) := by decide +kernel
theorem dX8_laid_0 : decode cX8_laid 0 = .ok (.iconst 0, 1) := by decide +kernel
theorem dX8_laid_1 : decode cX8_laid 1 = .ok (.istore_n 1, 1) := by decide +kernel
theorem dX8_laid_2 : decode cX8_laid 2 = .ok (.iconst 0, 1) := by decide +kernel
theorem dX8_laid_3 : decode cX8_laid 3 = .ok (.istore_n 2, 1) := by decide +kernel
theorem dX8_laid_4 : decode cX8_laid 4 = .ok (.iload_n 2, 1) := by decide +kernel
theorem dX8_laid_5 : decode cX8_laid 5 = .ok (.bipush 8, 2) := by decide +kernel
theorem dX8_laid_7 : decode cX8_laid 7 = .ok (.if_icmp .ge 22, 3) := by decide +kernel
theorem dX8_laid_10 : decode cX8_laid 10 = .ok (.aload_n 0, 1) := by decide +kernel
theorem dX8_laid_11 : decode cX8_laid 11 = .ok (.getfield 20, 3) := by decide +kernel
theorem dX8_laid_14 : decode cX8_laid 14 = .ok (.iload_n 2, 1) := by decide +kernel
theorem dX8_laid_15 : decode cX8_laid 15 = .ok (.iaload, 1) := by decide +kernel
theorem dX8_laid_16 : decode cX8_laid 16 = .ok (.iconst (-1), 1) := by decide +kernel
theorem dX8_laid_17 : decode cX8_laid 17 = .ok (.if_icmp .eq 6, 3) := by decide +kernel
theorem dX8_laid_20 : decode cX8_laid 20 = .ok (.iinc 1 1, 3) := by decide +kernel
theorem dX8_laid_23 : decode cX8_laid 23 = .ok (.iinc 2 1, 3) := by decide +kernel
theorem dX8_laid_26 : decode cX8_laid 26 = .ok (.goto (-22), 3) := by decide +kernel
theorem dX8_laid_29 : decode cX8_laid 29 = .ok (.iload_n 1, 1) := by decide +kernel
theorem dX8_laid_30 : decode cX8_laid 30 = .ok (.ireturn, 1) := by decide +kernel
theorem dX9_init_0 : decode cX9_init 0 = .ok (.aload_n 0, 1) := by decide +kernel
theorem dX9_init_1 : decode cX9_init 1 = .ok (.invokespecial 3, 3) := by decide +kernel
theorem dX9_init_4 : decode cX9_init 4 = .ok (.aload_n 0, 1) := by decide +kernel
theorem dX9_init_5 : decode cX9_init 5 = .ok (.bipush 11, 2) := by decide +kernel
theorem dX9_init_7 : decode cX9_init 7 = .ok (.newarray .int, 2) := by decide +kernel
theorem dX9_init_9 : decode cX9_init 9 = .ok (.putfield 9, 3) := by decide +kernel
theorem dX9_init_12 : decode cX9_init 12 = .ok (.aload_n 0, 1) := by decide +kernel
theorem dX9_init_13 : decode cX9_init 13 = .ok (.bipush 11, 2) := by decide +kernel
theorem dX9_init_15 : decode cX9_init 15 = .ok (.newarray .int, 2) := by decide +kernel
theorem dX9_init_17 : decode cX9_init 17 = .ok (.putfield 15, 3) := by decide +kernel
theorem dX9_init_20 : decode cX9_init 20 = .ok (.aload_n 0, 1) := by decide +kernel
theorem dX9_init_21 : decode cX9_init 21 = .ok (.bipush 10, 2) := by decide +kernel
theorem dX9_init_23 : decode cX9_init 23 = .ok (.newarray .int, 2) := by decide +kernel
theorem dX9_init_25 : decode cX9_init 25 = .ok (.putfield 18, 3) := by decide +kernel
theorem dX9_init_28 : decode cX9_init 28 = .ok (.aload_n 0, 1) := by decide +kernel
theorem dX9_init_29 : decode cX9_init 29 = .ok (.bipush 11, 2) := by decide +kernel
theorem dX9_init_31 : decode cX9_init 31 = .ok (.newarray .int, 2) := by decide +kernel
theorem dX9_init_33 : decode cX9_init 33 = .ok (.putfield 21, 3) := by decide +kernel
theorem dX9_init_36 : decode cX9_init 36 = .ok (.aload_n 0, 1) := by decide +kernel
theorem dX9_init_37 : decode cX9_init 37 = .ok (.bipush 10, 2) := by decide +kernel
theorem dX9_init_39 : decode cX9_init 39 = .ok (.newarray .int, 2) := by decide +kernel
theorem dX9_init_41 : decode cX9_init 41 = .ok (.putfield 24, 3) := by decide +kernel
theorem dX9_init_44 : decode cX9_init 44 = .ok (.aload_n 0, 1) := by decide +kernel
theorem dX9_init_45 : decode cX9_init 45 = .ok (.iconst 0, 1) := by decide +kernel
theorem dX9_init_46 : decode cX9_init 46 = .ok (.putfield 27, 3) := by decide +kernel
theorem dX9_init_49 : decode cX9_init 49 = .ok (.return_, 1) := by decide +kernel
theorem dX9_find_0 : decode cX9_find 0 = .ok (.aload_n 0, 1) := by decide +kernel
theorem dX9_find_1 : decode cX9_find 1 = .ok (.getfield 9, 3) := by decide +kernel
theorem dX9_find_4 : decode cX9_find 4 = .ok (.aload_n 1, 1) := by decide +kernel
theorem dX9_find_5 : decode cX9_find 5 = .ok (.getfield 31, 3) := by decide +kernel
theorem dX9_find_8 : decode cX9_find 8 = .ok (.iconst 0, 1) := by decide +kernel
theorem dX9_find_9 : decode cX9_find 9 = .ok (.iastore, 1) := by decide +kernel
theorem dX9_find_10 : decode cX9_find 10 = .ok (.aload_n 0, 1) := by decide +kernel
theorem dX9_find_11 : decode cX9_find 11 = .ok (.getfield 15, 3) := by decide +kernel
theorem dX9_find_14 : decode cX9_find 14 = .ok (.aload_n 1, 1) := by decide +kernel
theorem dX9_find_15 : decode cX9_find 15 = .ok (.getfield 31, 3) := by decide +kernel
theorem dX9_find_18 : decode cX9_find 18 = .ok (.iconst 0, 1) := by decide +kernel
theorem dX9_find_19 : decode cX9_find 19 = .ok (.iastore, 1) := by decide +kernel
theorem dX9_find_20 : decode cX9_find 20 = .ok (.aload_n 1, 1) := by decide +kernel
theorem dX9_find_21 : decode cX9_find 21 = .ok (.getfield 31, 3) := by decide +kernel
theorem dX9_find_24 : decode cX9_find 24 = .ok (.iconst 1, 1) := by decide +kernel
theorem dX9_find_25 : decode cX9_find 25 = .ok (.isub, 1) := by decide +kernel
theorem dX9_find_26 : decode cX9_find 26 = .ok (.istore_n 3, 1) := by decide +kernel
theorem dX9_find_27 : decode cX9_find 27 = .ok (.iload_n 3, 1) := by decide +kernel
theorem dX9_find_28 : decode cX9_find 28 = .ok (.ifCond .lt 16, 3) := by decide +kernel
theorem dX9_find_31 : decode cX9_find 31 = .ok (.aload_n 0, 1) := by decide +kernel
theorem dX9_find_32 : decode cX9_find 32 = .ok (.aload_n 1, 1) := by decide +kernel
theorem dX9_find_33 : decode cX9_find 33 = .ok (.iload_n 2, 1) := by decide +kernel
theorem dX9_find_34 : decode cX9_find 34 = .ok (.iload_n 3, 1) := by decide +kernel
theorem dX9_find_35 : decode cX9_find 35 = .ok (.invokevirtual 36, 3) := by decide +kernel
theorem dX9_find_38 : decode cX9_find 38 = .ok (.iinc 3 (-1), 3) := by decide +kernel
theorem dX9_find_41 : decode cX9_find 41 = .ok (.goto (-14), 3) := by decide +kernel
theorem dX9_find_44 : decode cX9_find 44 = .ok (.aload_n 0, 1) := by decide +kernel
theorem dX9_find_45 : decode cX9_find 45 = .ok (.aload_n 1, 1) := by decide +kernel
theorem dX9_find_46 : decode cX9_find 46 = .ok (.getfield 31, 3) := by decide +kernel
theorem dX9_find_49 : decode cX9_find 49 = .ok (.invokevirtual 40, 3) := by decide +kernel
theorem dX9_find_52 : decode cX9_find 52 = .ok (.return_, 1) := by decide +kernel
theorem dX9_weigh_0 : decode cX9_weigh 0 = .ok (.iconst 0, 1) := by decide +kernel
theorem dX9_weigh_1 : decode cX9_weigh 1 = .ok (.istore 4, 2) := by decide +kernel
theorem dX9_weigh_3 : decode cX9_weigh 3 = .ok (.iload_n 3, 1) := by decide +kernel
theorem dX9_weigh_4 : decode cX9_weigh 4 = .ok (.istore 5, 2) := by decide +kernel
theorem dX9_weigh_6 : decode cX9_weigh 6 = .ok (.iload 5, 2) := by decide +kernel
theorem dX9_weigh_8 : decode cX9_weigh 8 = .ok (.aload_n 1, 1) := by decide +kernel
theorem dX9_weigh_9 : decode cX9_weigh 9 = .ok (.getfield 31, 3) := by decide +kernel
theorem dX9_weigh_12 : decode cX9_weigh 12 = .ok (.if_icmp .ge 149, 3) := by decide +kernel
theorem dX9_weigh_15 : decode cX9_weigh 15 = .ok (.iload 5, 2) := by decide +kernel
theorem dX9_weigh_17 : decode cX9_weigh 17 = .ok (.iconst 1, 1) := by decide +kernel
theorem dX9_weigh_18 : decode cX9_weigh 18 = .ok (.iadd, 1) := by decide +kernel
theorem dX9_weigh_19 : decode cX9_weigh 19 = .ok (.istore 6, 2) := by decide +kernel
theorem dX9_weigh_21 : decode cX9_weigh 21 = .ok (.iload 4, 2) := by decide +kernel
theorem dX9_weigh_23 : decode cX9_weigh 23 = .ok (.aload_n 1, 1) := by decide +kernel
theorem dX9_weigh_24 : decode cX9_weigh 24 = .ok (.iload 5, 2) := by decide +kernel
theorem dX9_weigh_26 : decode cX9_weigh 26 = .ok (.iconst 1, 1) := by decide +kernel
theorem dX9_weigh_27 : decode cX9_weigh 27 = .ok (.iload 6, 2) := by decide +kernel
theorem dX9_weigh_29 : decode cX9_weigh 29 = .ok (.ishl, 1) := by decide +kernel
theorem dX9_weigh_30 : decode cX9_weigh 30 = .ok (.iconst 1, 1) := by decide +kernel
theorem dX9_weigh_31 : decode cX9_weigh 31 = .ok (.iload_n 3, 1) := by decide +kernel
theorem dX9_weigh_32 : decode cX9_weigh 32 = .ok (.ishl, 1) := by decide +kernel
theorem dX9_weigh_33 : decode cX9_weigh 33 = .ok (.isub, 1) := by decide +kernel
theorem dX9_weigh_34 : decode cX9_weigh 34 = .ok (.invokevirtual 44, 3) := by decide +kernel
theorem dX9_weigh_37 : decode cX9_weigh 37 = .ok (.invokestatic 48, 3) := by decide +kernel
theorem dX9_weigh_40 : decode cX9_weigh 40 = .ok (.istore 4, 2) := by decide +kernel
theorem dX9_weigh_42 : decode cX9_weigh 42 = .ok (.iload 4, 2) := by decide +kernel
theorem dX9_weigh_44 : decode cX9_weigh 44 = .ok (.aload_n 0, 1) := by decide +kernel
theorem dX9_weigh_45 : decode cX9_weigh 45 = .ok (.getfield 9, 3) := by decide +kernel
theorem dX9_weigh_48 : decode cX9_weigh 48 = .ok (.iload 6, 2) := by decide +kernel
theorem dX9_weigh_50 : decode cX9_weigh 50 = .ok (.iaload, 1) := by decide +kernel
theorem dX9_weigh_51 : decode cX9_weigh 51 = .ok (.iadd, 1) := by decide +kernel
theorem dX9_weigh_52 : decode cX9_weigh 52 = .ok (.iload 6, 2) := by decide +kernel
theorem dX9_weigh_54 : decode cX9_weigh 54 = .ok (.aload_n 1, 1) := by decide +kernel
theorem dX9_weigh_55 : decode cX9_weigh 55 = .ok (.getfield 31, 3) := by decide +kernel
theorem dX9_weigh_58 : decode cX9_weigh 58 = .ok (.if_icmp .ge 7, 3) := by decide +kernel
theorem dX9_weigh_61 : decode cX9_weigh 61 = .ok (.iload_n 2, 1) := by decide +kernel
theorem dX9_weigh_62 : decode cX9_weigh 62 = .ok (.goto 4, 3) := by decide +kernel
theorem dX9_weigh_65 : decode cX9_weigh 65 = .ok (.iconst 0, 1) := by decide +kernel
theorem dX9_weigh_66 : decode cX9_weigh 66 = .ok (.iadd, 1) := by decide +kernel
theorem dX9_weigh_67 : decode cX9_weigh 67 = .ok (.istore 7, 2) := by decide +kernel
theorem dX9_weigh_69 : decode cX9_weigh 69 = .ok (.aload_n 0, 1) := by decide +kernel
theorem dX9_weigh_70 : decode cX9_weigh 70 = .ok (.getfield 15, 3) := by decide +kernel
theorem dX9_weigh_73 : decode cX9_weigh 73 = .ok (.iload 6, 2) := by decide +kernel
theorem dX9_weigh_75 : decode cX9_weigh 75 = .ok (.iaload, 1) := by decide +kernel
theorem dX9_weigh_76 : decode cX9_weigh 76 = .ok (.iconst 1, 1) := by decide +kernel
theorem dX9_weigh_77 : decode cX9_weigh 77 = .ok (.iadd, 1) := by decide +kernel
theorem dX9_weigh_78 : decode cX9_weigh 78 = .ok (.istore 8, 2) := by decide +kernel
theorem dX9_weigh_80 : decode cX9_weigh 80 = .ok (.iload 7, 2) := by decide +kernel
theorem dX9_weigh_82 : decode cX9_weigh 82 = .ok (.aload_n 0, 1) := by decide +kernel
theorem dX9_weigh_83 : decode cX9_weigh 83 = .ok (.getfield 9, 3) := by decide +kernel
theorem dX9_weigh_86 : decode cX9_weigh 86 = .ok (.iload_n 3, 1) := by decide +kernel
theorem dX9_weigh_87 : decode cX9_weigh 87 = .ok (.iaload, 1) := by decide +kernel
theorem dX9_weigh_88 : decode cX9_weigh 88 = .ok (.if_icmp .lt 25, 3) := by decide +kernel
theorem dX9_weigh_91 : decode cX9_weigh 91 = .ok (.iload 7, 2) := by decide +kernel
theorem dX9_weigh_93 : decode cX9_weigh 93 = .ok (.aload_n 0, 1) := by decide +kernel
theorem dX9_weigh_94 : decode cX9_weigh 94 = .ok (.getfield 9, 3) := by decide +kernel
theorem dX9_weigh_97 : decode cX9_weigh 97 = .ok (.iload_n 3, 1) := by decide +kernel
theorem dX9_weigh_98 : decode cX9_weigh 98 = .ok (.iaload, 1) := by decide +kernel
theorem dX9_weigh_99 : decode cX9_weigh 99 = .ok (.if_icmp .ne 18, 3) := by decide +kernel
theorem dX9_weigh_102 : decode cX9_weigh 102 = .ok (.iload 8, 2) := by decide +kernel
theorem dX9_weigh_104 : decode cX9_weigh 104 = .ok (.aload_n 0, 1) := by decide +kernel
theorem dX9_weigh_105 : decode cX9_weigh 105 = .ok (.getfield 15, 3) := by decide +kernel
theorem dX9_weigh_108 : decode cX9_weigh 108 = .ok (.iload_n 3, 1) := by decide +kernel
theorem dX9_weigh_109 : decode cX9_weigh 109 = .ok (.iaload, 1) := by decide +kernel
theorem dX9_weigh_110 : decode cX9_weigh 110 = .ok (.if_icmp .ge 7, 3) := by decide +kernel
theorem dX9_weigh_113 : decode cX9_weigh 113 = .ok (.iconst 1, 1) := by decide +kernel
theorem dX9_weigh_114 : decode cX9_weigh 114 = .ok (.goto 4, 3) := by decide +kernel
theorem dX9_weigh_117 : decode cX9_weigh 117 = .ok (.iconst 0, 1) := by decide +kernel
theorem dX9_weigh_118 : decode cX9_weigh 118 = .ok (.istore 9, 2) := by decide +kernel
theorem dX9_weigh_120 : decode cX9_weigh 120 = .ok (.iload 5, 2) := by decide +kernel
theorem dX9_weigh_122 : decode cX9_weigh 122 = .ok (.iload_n 3, 1) := by decide +kernel
theorem dX9_weigh_123 : decode cX9_weigh 123 = .ok (.if_icmp .eq 8, 3) := by decide +kernel
theorem dX9_weigh_126 : decode cX9_weigh 126 = .ok (.iload 9, 2) := by decide +kernel
theorem dX9_weigh_128 : decode cX9_weigh 128 = .ok (.ifCond .eq 27, 3) := by decide +kernel
theorem dX9_weigh_131 : decode cX9_weigh 131 = .ok (.aload_n 0, 1) := by decide +kernel
theorem dX9_weigh_132 : decode cX9_weigh 132 = .ok (.getfield 9, 3) := by decide +kernel
theorem dX9_weigh_135 : decode cX9_weigh 135 = .ok (.iload_n 3, 1) := by decide +kernel
theorem dX9_weigh_136 : decode cX9_weigh 136 = .ok (.iload 7, 2) := by decide +kernel
theorem dX9_weigh_138 : decode cX9_weigh 138 = .ok (.iastore, 1) := by decide +kernel
theorem dX9_weigh_139 : decode cX9_weigh 139 = .ok (.aload_n 0, 1) := by decide +kernel
theorem dX9_weigh_140 : decode cX9_weigh 140 = .ok (.getfield 15, 3) := by decide +kernel
theorem dX9_weigh_143 : decode cX9_weigh 143 = .ok (.iload_n 3, 1) := by decide +kernel
theorem dX9_weigh_144 : decode cX9_weigh 144 = .ok (.iload 8, 2) := by decide +kernel
theorem dX9_weigh_146 : decode cX9_weigh 146 = .ok (.iastore, 1) := by decide +kernel
theorem dX9_weigh_147 : decode cX9_weigh 147 = .ok (.aload_n 0, 1) := by decide +kernel
theorem dX9_weigh_148 : decode cX9_weigh 148 = .ok (.getfield 18, 3) := by decide +kernel
theorem dX9_weigh_151 : decode cX9_weigh 151 = .ok (.iload_n 3, 1) := by decide +kernel
theorem dX9_weigh_152 : decode cX9_weigh 152 = .ok (.iload 6, 2) := by decide +kernel
theorem dX9_weigh_154 : decode cX9_weigh 154 = .ok (.iastore, 1) := by decide +kernel
theorem dX9_weigh_155 : decode cX9_weigh 155 = .ok (.iinc 5 1, 3) := by decide +kernel
theorem dX9_weigh_158 : decode cX9_weigh 158 = .ok (.goto (-152), 3) := by decide +kernel
theorem dX9_weigh_161 : decode cX9_weigh 161 = .ok (.return_, 1) := by decide +kernel
theorem dX9_collect_0 : decode cX9_collect 0 = .ok (.aload_n 0, 1) := by decide +kernel
theorem dX9_collect_1 : decode cX9_collect 1 = .ok (.iconst 0, 1) := by decide +kernel
theorem dX9_collect_2 : decode cX9_collect 2 = .ok (.putfield 27, 3) := by decide +kernel
theorem dX9_collect_5 : decode cX9_collect 5 = .ok (.aload_n 0, 1) := by decide +kernel
theorem dX9_collect_6 : decode cX9_collect 6 = .ok (.getfield 21, 3) := by decide +kernel
theorem dX9_collect_9 : decode cX9_collect 9 = .ok (.iconst 0, 1) := by decide +kernel
theorem dX9_collect_10 : decode cX9_collect 10 = .ok (.iconst 0, 1) := by decide +kernel
theorem dX9_collect_11 : decode cX9_collect 11 = .ok (.iastore, 1) := by decide +kernel
theorem dX9_collect_12 : decode cX9_collect 12 = .ok (.iconst 0, 1) := by decide +kernel
theorem dX9_collect_13 : decode cX9_collect 13 = .ok (.istore_n 2, 1) := by decide +kernel
theorem dX9_collect_14 : decode cX9_collect 14 = .ok (.iload_n 2, 1) := by decide +kernel
theorem dX9_collect_15 : decode cX9_collect 15 = .ok (.iload_n 1, 1) := by decide +kernel
theorem dX9_collect_16 : decode cX9_collect 16 = .ok (.if_icmp .ge 61, 3) := by decide +kernel
theorem dX9_collect_19 : decode cX9_collect 19 = .ok (.aload_n 0, 1) := by decide +kernel
theorem dX9_collect_20 : decode cX9_collect 20 = .ok (.getfield 24, 3) := by decide +kernel
theorem dX9_collect_23 : decode cX9_collect 23 = .ok (.iload_n 2, 1) := by decide +kernel
theorem dX9_collect_24 : decode cX9_collect 24 = .ok (.aload_n 0, 1) := by decide +kernel
theorem dX9_collect_25 : decode cX9_collect 25 = .ok (.getfield 27, 3) := by decide +kernel
theorem dX9_collect_28 : decode cX9_collect 28 = .ok (.iastore, 1) := by decide +kernel
theorem dX9_collect_29 : decode cX9_collect 29 = .ok (.aload_n 0, 1) := by decide +kernel
theorem dX9_collect_30 : decode cX9_collect 30 = .ok (.getfield 18, 3) := by decide +kernel
theorem dX9_collect_33 : decode cX9_collect 33 = .ok (.aload_n 0, 1) := by decide +kernel
theorem dX9_collect_34 : decode cX9_collect 34 = .ok (.getfield 21, 3) := by decide +kernel
theorem dX9_collect_37 : decode cX9_collect 37 = .ok (.aload_n 0, 1) := by decide +kernel
theorem dX9_collect_38 : decode cX9_collect 38 = .ok (.getfield 27, 3) := by decide +kernel
theorem dX9_collect_41 : decode cX9_collect 41 = .ok (.iaload, 1) := by decide +kernel
theorem dX9_collect_42 : decode cX9_collect 42 = .ok (.iaload, 1) := by decide +kernel
theorem dX9_collect_43 : decode cX9_collect 43 = .ok (.iload_n 2, 1) := by decide +kernel
theorem dX9_collect_44 : decode cX9_collect 44 = .ok (.iconst 1, 1) := by decide +kernel
theorem dX9_collect_45 : decode cX9_collect 45 = .ok (.iadd, 1) := by decide +kernel
theorem dX9_collect_46 : decode cX9_collect 46 = .ok (.if_icmp .ne 25, 3) := by decide +kernel
theorem dX9_collect_49 : decode cX9_collect 49 = .ok (.aload_n 0, 1) := by decide +kernel
theorem dX9_collect_50 : decode cX9_collect 50 = .ok (.dup, 1) := by decide +kernel
theorem dX9_collect_51 : decode cX9_collect 51 = .ok (.getfield 27, 3) := by decide +kernel
theorem dX9_collect_54 : decode cX9_collect 54 = .ok (.iconst 1, 1) := by decide +kernel
theorem dX9_collect_55 : decode cX9_collect 55 = .ok (.iadd, 1) := by decide +kernel
theorem dX9_collect_56 : decode cX9_collect 56 = .ok (.putfield 27, 3) := by decide +kernel
theorem dX9_collect_59 : decode cX9_collect 59 = .ok (.aload_n 0, 1) := by decide +kernel
theorem dX9_collect_60 : decode cX9_collect 60 = .ok (.getfield 21, 3) := by decide +kernel
theorem dX9_collect_63 : decode cX9_collect 63 = .ok (.aload_n 0, 1) := by decide +kernel
theorem dX9_collect_64 : decode cX9_collect 64 = .ok (.getfield 27, 3) := by decide +kernel
theorem dX9_collect_67 : decode cX9_collect 67 = .ok (.iload_n 2, 1) := by decide +kernel
theorem dX9_collect_68 : decode cX9_collect 68 = .ok (.iconst 1, 1) := by decide +kernel
theorem dX9_collect_69 : decode cX9_collect 69 = .ok (.iadd, 1) := by decide +kernel
theorem dX9_collect_70 : decode cX9_collect 70 = .ok (.iastore, 1) := by decide +kernel
theorem dX9_collect_71 : decode cX9_collect 71 = .ok (.iinc 2 1, 3) := by decide +kernel
theorem dX9_collect_74 : decode cX9_collect 74 = .ok (.goto (-60), 3) := by decide +kernel
theorem dX9_collect_77 : decode cX9_collect 77 = .ok (.return_, 1) := by decide +kernel
theorem dX10_init_0 : decode cX10_init 0 = .ok (.aload_n 0, 1) := by decide +kernel
theorem dX10_init_1 : decode cX10_init 1 = .ok (.invokespecial 3, 3) := by decide +kernel
theorem dX10_init_4 : decode cX10_init 4 = .ok (.aload_n 0, 1) := by decide +kernel
theorem dX10_init_5 : decode cX10_init 5 = .ok (.sipush 130, 3) := by decide +kernel
theorem dX10_init_8 : decode cX10_init 8 = .ok (.newarray .int, 2) := by decide +kernel
theorem dX10_init_10 : decode cX10_init 10 = .ok (.putfield 9, 3) := by decide +kernel
theorem dX10_init_13 : decode cX10_init 13 = .ok (.aload_n 0, 1) := by decide +kernel
theorem dX10_init_14 : decode cX10_init 14 = .ok (.iconst 0, 1) := by decide +kernel
theorem dX10_init_15 : decode cX10_init 15 = .ok (.putfield 15, 3) := by decide +kernel
theorem dX10_init_18 : decode cX10_init 18 = .ok (.return_, 1) := by decide +kernel
theorem dX10_add_0 : decode cX10_add 0 = .ok (.aload_n 0, 1) := by decide +kernel
theorem dX10_add_1 : decode cX10_add 1 = .ok (.getfield 15, 3) := by decide +kernel
theorem dX10_add_4 : decode cX10_add 4 = .ok (.sipush 130, 3) := by decide +kernel
theorem dX10_add_7 : decode cX10_add 7 = .ok (.if_icmp .ge 23, 3) := by decide +kernel
theorem dX10_add_10 : decode cX10_add 10 = .ok (.aload_n 0, 1) := by decide +kernel
theorem dX10_add_11 : decode cX10_add 11 = .ok (.getfield 9, 3) := by decide +kernel
theorem dX10_add_14 : decode cX10_add 14 = .ok (.aload_n 0, 1) := by decide +kernel
theorem dX10_add_15 : decode cX10_add 15 = .ok (.getfield 15, 3) := by decide +kernel
theorem dX10_add_18 : decode cX10_add 18 = .ok (.iload_n 1, 1) := by decide +kernel
theorem dX10_add_19 : decode cX10_add 19 = .ok (.iastore, 1) := by decide +kernel
theorem dX10_add_20 : decode cX10_add 20 = .ok (.aload_n 0, 1) := by decide +kernel
theorem dX10_add_21 : decode cX10_add 21 = .ok (.dup, 1) := by decide +kernel
theorem dX10_add_22 : decode cX10_add 22 = .ok (.getfield 15, 3) := by decide +kernel
theorem dX10_add_25 : decode cX10_add 25 = .ok (.iconst 1, 1) := by decide +kernel
theorem dX10_add_26 : decode cX10_add 26 = .ok (.iadd, 1) := by decide +kernel
theorem dX10_add_27 : decode cX10_add 27 = .ok (.putfield 15, 3) := by decide +kernel
theorem dX10_add_30 : decode cX10_add 30 = .ok (.aload_n 0, 1) := by decide +kernel
theorem dX10_add_31 : decode cX10_add 31 = .ok (.getfield 15, 3) := by decide +kernel
theorem dX10_add_34 : decode cX10_add 34 = .ok (.ireturn, 1) := by decide +kernel
theorem dX10_at_0 : decode cX10_at 0 = .ok (.iload_n 1, 1) := by decide +kernel
theorem dX10_at_1 : decode cX10_at 1 = .ok (.ifCond .lt 20, 3) := by decide +kernel
theorem dX10_at_4 : decode cX10_at 4 = .ok (.iload_n 1, 1) := by decide +kernel
theorem dX10_at_5 : decode cX10_at 5 = .ok (.aload_n 0, 1) := by decide +kernel
theorem dX10_at_6 : decode cX10_at 6 = .ok (.getfield 15, 3) := by decide +kernel
theorem dX10_at_9 : decode cX10_at 9 = .ok (.if_icmp .ge 12, 3) := by decide +kernel
theorem dX10_at_12 : decode cX10_at 12 = .ok (.aload_n 0, 1) := by decide +kernel
theorem dX10_at_13 : decode cX10_at 13 = .ok (.getfield 9, 3) := by decide +kernel
theorem dX10_at_16 : decode cX10_at 16 = .ok (.iload_n 1, 1) := by decide +kernel
theorem dX10_at_17 : decode cX10_at 17 = .ok (.iaload, 1) := by decide +kernel
theorem dX10_at_18 : decode cX10_at 18 = .ok (.goto 4, 3) := by decide +kernel
theorem dX10_at_21 : decode cX10_at 21 = .ok (.iconst (-1), 1) := by decide +kernel
theorem dX10_at_22 : decode cX10_at 22 = .ok (.ireturn, 1) := by decide +kernel
theorem dX10_figuresAt_0 : decode cX10_figuresAt 0 = .ok (.iconst 0, 1) := by decide +kernel
theorem dX10_figuresAt_1 : decode cX10_figuresAt 1 = .ok (.istore_n 2, 1) := by decide +kernel
theorem dX10_figuresAt_2 : decode cX10_figuresAt 2 = .ok (.iload_n 1, 1) := by decide +kernel
theorem dX10_figuresAt_3 : decode cX10_figuresAt 3 = .ok (.istore_n 3, 1) := by decide +kernel
theorem dX10_figuresAt_4 : decode cX10_figuresAt 4 = .ok (.iload_n 3, 1) := by decide +kernel
theorem dX10_figuresAt_5 : decode cX10_figuresAt 5 = .ok (.aload_n 0, 1) := by decide +kernel
theorem dX10_figuresAt_6 : decode cX10_figuresAt 6 = .ok (.getfield 15, 3) := by decide +kernel
theorem dX10_figuresAt_9 : decode cX10_figuresAt 9 = .ok (.if_icmp .ge 32, 3) := by decide +kernel
theorem dX10_figuresAt_12 : decode cX10_figuresAt 12 = .ok (.aload_n 0, 1) := by decide +kernel
theorem dX10_figuresAt_13 : decode cX10_figuresAt 13 = .ok (.iload_n 3, 1) := by decide +kernel
theorem dX10_figuresAt_14 : decode cX10_figuresAt 14 = .ok (.invokevirtual 19, 3) := by decide +kernel
theorem dX10_figuresAt_17 : decode cX10_figuresAt 17 = .ok (.bipush 48, 2) := by decide +kernel
theorem dX10_figuresAt_19 : decode cX10_figuresAt 19 = .ok (.if_icmp .lt 22, 3) := by decide +kernel
theorem dX10_figuresAt_22 : decode cX10_figuresAt 22 = .ok (.aload_n 0, 1) := by decide +kernel
theorem dX10_figuresAt_23 : decode cX10_figuresAt 23 = .ok (.iload_n 3, 1) := by decide +kernel
theorem dX10_figuresAt_24 : decode cX10_figuresAt 24 = .ok (.invokevirtual 19, 3) := by decide +kernel
theorem dX10_figuresAt_27 : decode cX10_figuresAt 27 = .ok (.bipush 57, 2) := by decide +kernel
theorem dX10_figuresAt_29 : decode cX10_figuresAt 29 = .ok (.if_icmp .gt 12, 3) := by decide +kernel
theorem dX10_figuresAt_32 : decode cX10_figuresAt 32 = .ok (.iinc 2 1, 3) := by decide +kernel
theorem dX10_figuresAt_35 : decode cX10_figuresAt 35 = .ok (.iinc 3 1, 3) := by decide +kernel
theorem dX10_figuresAt_38 : decode cX10_figuresAt 38 = .ok (.goto (-34), 3) := by decide +kernel
theorem dX10_figuresAt_41 : decode cX10_figuresAt 41 = .ok (.iload_n 2, 1) := by decide +kernel
theorem dX10_figuresAt_42 : decode cX10_figuresAt 42 = .ok (.ireturn, 1) := by decide +kernel
theorem dX10_spells_0 : decode cX10_spells 0 = .ok (.aload_n 1, 1) := by decide +kernel
theorem dX10_spells_1 : decode cX10_spells 1 = .ok (.invokevirtual 23, 3) := by decide +kernel
theorem dX10_spells_4 : decode cX10_spells 4 = .ok (.aload_n 0, 1) := by decide +kernel
theorem dX10_spells_5 : decode cX10_spells 5 = .ok (.getfield 15, 3) := by decide +kernel
theorem dX10_spells_8 : decode cX10_spells 8 = .ok (.if_icmp .eq 5, 3) := by decide +kernel
theorem dX10_spells_11 : decode cX10_spells 11 = .ok (.iconst 0, 1) := by decide +kernel
theorem dX10_spells_12 : decode cX10_spells 12 = .ok (.ireturn, 1) := by decide +kernel
theorem dX10_spells_13 : decode cX10_spells 13 = .ok (.iconst 0, 1) := by decide +kernel
theorem dX10_spells_14 : decode cX10_spells 14 = .ok (.istore_n 2, 1) := by decide +kernel
theorem dX10_spells_15 : decode cX10_spells 15 = .ok (.iload_n 2, 1) := by decide +kernel
theorem dX10_spells_16 : decode cX10_spells 16 = .ok (.aload_n 0, 1) := by decide +kernel
theorem dX10_spells_17 : decode cX10_spells 17 = .ok (.getfield 15, 3) := by decide +kernel
theorem dX10_spells_20 : decode cX10_spells 20 = .ok (.if_icmp .ge 25, 3) := by decide +kernel
theorem dX10_spells_23 : decode cX10_spells 23 = .ok (.aload_n 0, 1) := by decide +kernel
theorem dX10_spells_24 : decode cX10_spells 24 = .ok (.getfield 9, 3) := by decide +kernel
theorem dX10_spells_27 : decode cX10_spells 27 = .ok (.iload_n 2, 1) := by decide +kernel
theorem dX10_spells_28 : decode cX10_spells 28 = .ok (.iaload, 1) := by decide +kernel
theorem dX10_spells_29 : decode cX10_spells 29 = .ok (.aload_n 1, 1) := by decide +kernel
theorem dX10_spells_30 : decode cX10_spells 30 = .ok (.iload_n 2, 1) := by decide +kernel
theorem dX10_spells_31 : decode cX10_spells 31 = .ok (.invokevirtual 28, 3) := by decide +kernel
theorem dX10_spells_34 : decode cX10_spells 34 = .ok (.if_icmp .eq 5, 3) := by decide +kernel
theorem dX10_spells_37 : decode cX10_spells 37 = .ok (.iconst 0, 1) := by decide +kernel
theorem dX10_spells_38 : decode cX10_spells 38 = .ok (.ireturn, 1) := by decide +kernel
theorem dX10_spells_39 : decode cX10_spells 39 = .ok (.iinc 2 1, 3) := by decide +kernel
theorem dX10_spells_42 : decode cX10_spells 42 = .ok (.goto (-27), 3) := by decide +kernel
theorem dX10_spells_45 : decode cX10_spells 45 = .ok (.iconst 1, 1) := by decide +kernel
theorem dX10_spells_46 : decode cX10_spells 46 = .ok (.ireturn, 1) := by decide +kernel
theorem dX10_asks_0 : decode cX10_asks 0 = .ok (.aload_n 0, 1) := by decide +kernel
theorem dX10_asks_1 : decode cX10_asks 1 = .ok (.ldc 32, 2) := by decide +kernel
theorem dX10_asks_3 : decode cX10_asks 3 = .ok (.invokevirtual 34, 3) := by decide +kernel
theorem dX10_asks_6 : decode cX10_asks 6 = .ok (.ifCond .eq 5, 3) := by decide +kernel
theorem dX10_asks_9 : decode cX10_asks 9 = .ok (.iconst 0, 1) := by decide +kernel
theorem dX10_asks_10 : decode cX10_asks 10 = .ok (.ireturn, 1) := by decide +kernel
theorem dX10_asks_11 : decode cX10_asks 11 = .ok (.aload_n 0, 1) := by decide +kernel
theorem dX10_asks_12 : decode cX10_asks 12 = .ok (.ldc 38, 2) := by decide +kernel
theorem dX10_asks_14 : decode cX10_asks 14 = .ok (.invokevirtual 34, 3) := by decide +kernel
theorem dX10_asks_17 : decode cX10_asks 17 = .ok (.ifCond .eq 5, 3) := by decide +kernel
theorem dX10_asks_20 : decode cX10_asks 20 = .ok (.iconst 1, 1) := by decide +kernel
theorem dX10_asks_21 : decode cX10_asks 21 = .ok (.ireturn, 1) := by decide +kernel
theorem dX10_asks_22 : decode cX10_asks 22 = .ok (.aload_n 0, 1) := by decide +kernel
theorem dX10_asks_23 : decode cX10_asks 23 = .ok (.ldc 40, 2) := by decide +kernel
theorem dX10_asks_25 : decode cX10_asks 25 = .ok (.invokevirtual 34, 3) := by decide +kernel
theorem dX10_asks_28 : decode cX10_asks 28 = .ok (.ifCond .eq 5, 3) := by decide +kernel
theorem dX10_asks_31 : decode cX10_asks 31 = .ok (.iconst 2, 1) := by decide +kernel
theorem dX10_asks_32 : decode cX10_asks 32 = .ok (.ireturn, 1) := by decide +kernel
theorem dX10_asks_33 : decode cX10_asks 33 = .ok (.aload_n 0, 1) := by decide +kernel
theorem dX10_asks_34 : decode cX10_asks 34 = .ok (.ldc 42, 2) := by decide +kernel
theorem dX10_asks_36 : decode cX10_asks 36 = .ok (.invokevirtual 34, 3) := by decide +kernel
theorem dX10_asks_39 : decode cX10_asks 39 = .ok (.ifCond .eq 5, 3) := by decide +kernel
theorem dX10_asks_42 : decode cX10_asks 42 = .ok (.iconst 3, 1) := by decide +kernel
theorem dX10_asks_43 : decode cX10_asks 43 = .ok (.ireturn, 1) := by decide +kernel
theorem dX10_asks_44 : decode cX10_asks 44 = .ok (.aload_n 0, 1) := by decide +kernel
theorem dX10_asks_45 : decode cX10_asks 45 = .ok (.ldc 44, 2) := by decide +kernel
theorem dX10_asks_47 : decode cX10_asks 47 = .ok (.invokevirtual 34, 3) := by decide +kernel
theorem dX10_asks_50 : decode cX10_asks 50 = .ok (.ifCond .eq 5, 3) := by decide +kernel
theorem dX10_asks_53 : decode cX10_asks 53 = .ok (.iconst 4, 1) := by decide +kernel
theorem dX10_asks_54 : decode cX10_asks 54 = .ok (.ireturn, 1) := by decide +kernel
theorem dX10_asks_55 : decode cX10_asks 55 = .ok (.aload_n 0, 1) := by decide +kernel
theorem dX10_asks_56 : decode cX10_asks 56 = .ok (.ldc 46, 2) := by decide +kernel
theorem dX10_asks_58 : decode cX10_asks 58 = .ok (.invokevirtual 34, 3) := by decide +kernel
theorem dX10_asks_61 : decode cX10_asks 61 = .ok (.ifCond .eq 5, 3) := by decide +kernel
theorem dX10_asks_64 : decode cX10_asks 64 = .ok (.iconst 5, 1) := by decide +kernel
theorem dX10_asks_65 : decode cX10_asks 65 = .ok (.ireturn, 1) := by decide +kernel
theorem dX10_asks_66 : decode cX10_asks 66 = .ok (.aload_n 0, 1) := by decide +kernel
theorem dX10_asks_67 : decode cX10_asks 67 = .ok (.ldc 48, 2) := by decide +kernel
theorem dX10_asks_69 : decode cX10_asks 69 = .ok (.invokevirtual 34, 3) := by decide +kernel
theorem dX10_asks_72 : decode cX10_asks 72 = .ok (.ifCond .eq 6, 3) := by decide +kernel
theorem dX10_asks_75 : decode cX10_asks 75 = .ok (.bipush 6, 2) := by decide +kernel
theorem dX10_asks_77 : decode cX10_asks 77 = .ok (.ireturn, 1) := by decide +kernel
theorem dX10_asks_78 : decode cX10_asks 78 = .ok (.aload_n 0, 1) := by decide +kernel
theorem dX10_asks_79 : decode cX10_asks 79 = .ok (.ldc 50, 2) := by decide +kernel
theorem dX10_asks_81 : decode cX10_asks 81 = .ok (.invokevirtual 34, 3) := by decide +kernel
theorem dX10_asks_84 : decode cX10_asks 84 = .ok (.ifCond .eq 6, 3) := by decide +kernel
theorem dX10_asks_87 : decode cX10_asks 87 = .ok (.bipush 7, 2) := by decide +kernel
theorem dX10_asks_89 : decode cX10_asks 89 = .ok (.ireturn, 1) := by decide +kernel
theorem dX10_asks_90 : decode cX10_asks 90 = .ok (.aload_n 0, 1) := by decide +kernel
theorem dX10_asks_91 : decode cX10_asks 91 = .ok (.ldc 52, 2) := by decide +kernel
theorem dX10_asks_93 : decode cX10_asks 93 = .ok (.invokevirtual 34, 3) := by decide +kernel
theorem dX10_asks_96 : decode cX10_asks 96 = .ok (.ifCond .eq 8, 3) := by decide +kernel
theorem dX10_asks_99 : decode cX10_asks 99 = .ok (.bipush 9, 2) := by decide +kernel
theorem dX10_asks_101 : decode cX10_asks 101 = .ok (.goto 5, 3) := by decide +kernel
theorem dX10_asks_104 : decode cX10_asks 104 = .ok (.ldc 54, 2) := by decide +kernel
theorem dX10_asks_106 : decode cX10_asks 106 = .ok (.ireturn, 1) := by decide +kernel
