theorem dX9_init_0 : decode cX9_init 0 = .ok (.aload_n 0, 1) := by decide +kernel
theorem dX9_init_1 : decode cX9_init 1 = .ok (.invokespecial 1, 3) := by decide +kernel
theorem dX9_init_4 : decode cX9_init 4 = .ok (.aload_n 0, 1) := by decide +kernel
theorem dX9_init_5 : decode cX9_init 5 = .ok (.sipush 304, 3) := by decide +kernel
theorem dX9_init_8 : decode cX9_init 8 = .ok (.newarray .int, 2) := by decide +kernel
theorem dX9_init_10 : decode cX9_init 10 = .ok (.putfield 7, 3) := by decide +kernel
theorem dX9_init_13 : decode cX9_init 13 = .ok (.aload_n 0, 1) := by decide +kernel
theorem dX9_init_14 : decode cX9_init 14 = .ok (.sipush 608, 3) := by decide +kernel
theorem dX9_init_17 : decode cX9_init 17 = .ok (.newarray .int, 2) := by decide +kernel
theorem dX9_init_19 : decode cX9_init 19 = .ok (.putfield 13, 3) := by decide +kernel
theorem dX9_init_22 : decode cX9_init 22 = .ok (.aload_n 0, 1) := by decide +kernel
theorem dX9_init_23 : decode cX9_init 23 = .ok (.iconst 2, 1) := by decide +kernel
theorem dX9_init_24 : decode cX9_init 24 = .ok (.newarray .boolean, 2) := by decide +kernel
theorem dX9_init_26 : decode cX9_init 26 = .ok (.putfield 16, 3) := by decide +kernel
theorem dX9_init_29 : decode cX9_init 29 = .ok (.aload_n 0, 1) := by decide +kernel
theorem dX9_init_30 : decode cX9_init 30 = .ok (.iconst 3, 1) := by decide +kernel
theorem dX9_init_31 : decode cX9_init 31 = .ok (.newarray .int, 2) := by decide +kernel
theorem dX9_init_33 : decode cX9_init 33 = .ok (.putfield 20, 3) := by decide +kernel
theorem dX9_init_36 : decode cX9_init 36 = .ok (.aload_n 0, 1) := by decide +kernel
theorem dX9_init_37 : decode cX9_init 37 = .ok (.lconst 1, 1) := by decide +kernel
theorem dX9_init_38 : decode cX9_init 38 = .ok (.putfield 23, 3) := by decide +kernel
theorem dX9_init_41 : decode cX9_init 41 = .ok (.aload_n 0, 1) := by decide +kernel
theorem dX9_init_42 : decode cX9_init 42 = .ok (.bipush 46, 2) := by decide +kernel
theorem dX9_init_44 : decode cX9_init 44 = .ok (.newarray .int, 2) := by decide +kernel
theorem dX9_init_46 : decode cX9_init 46 = .ok (.putfield 27, 3) := by decide +kernel
theorem dX9_init_49 : decode cX9_init 49 = .ok (.aload_n 0, 1) := by decide +kernel
theorem dX9_init_50 : decode cX9_init 50 = .ok (.iconst 4, 1) := by decide +kernel
theorem dX9_init_51 : decode cX9_init 51 = .ok (.newarray .int, 2) := by decide +kernel
theorem dX9_init_53 : decode cX9_init 53 = .ok (.putfield 30, 3) := by decide +kernel
theorem dX9_init_56 : decode cX9_init 56 = .ok (.aload_n 0, 1) := by decide +kernel
theorem dX9_init_57 : decode cX9_init 57 = .ok (.bipush 96, 2) := by decide +kernel
theorem dX9_init_59 : decode cX9_init 59 = .ok (.newarray .boolean, 2) := by decide +kernel
theorem dX9_init_61 : decode cX9_init 61 = .ok (.putfield 33, 3) := by decide +kernel
theorem dX9_init_64 : decode cX9_init 64 = .ok (.aload_n 0, 1) := by decide +kernel
theorem dX9_init_65 : decode cX9_init 65 = .ok (.iconst 4, 1) := by decide +kernel
theorem dX9_init_66 : decode cX9_init 66 = .ok (.newarray .int, 2) := by decide +kernel
theorem dX9_init_68 : decode cX9_init 68 = .ok (.putfield 36, 3) := by decide +kernel
theorem dX9_init_71 : decode cX9_init 71 = .ok (.aload_n 0, 1) := by decide +kernel
theorem dX9_init_72 : decode cX9_init 72 = .ok (.iconst 4, 1) := by decide +kernel
theorem dX9_init_73 : decode cX9_init 73 = .ok (.newarray .int, 2) := by decide +kernel
theorem dX9_init_75 : decode cX9_init 75 = .ok (.putfield 39, 3) := by decide +kernel
theorem dX9_init_78 : decode cX9_init 78 = .ok (.aload_n 0, 1) := by decide +kernel
theorem dX9_init_79 : decode cX9_init 79 = .ok (.sipush 150, 3) := by decide +kernel
theorem dX9_init_82 : decode cX9_init 82 = .ok (.newarray .int, 2) := by decide +kernel
theorem dX9_init_84 : decode cX9_init 84 = .ok (.putfield 42, 3) := by decide +kernel
theorem dX9_init_87 : decode cX9_init 87 = .ok (.aload_n 0, 1) := by decide +kernel
theorem dX9_init_88 : decode cX9_init 88 = .ok (.bipush 112, 2) := by decide +kernel
theorem dX9_init_90 : decode cX9_init 90 = .ok (.newarray .int, 2) := by decide +kernel
theorem dX9_init_92 : decode cX9_init 92 = .ok (.putfield 45, 3) := by decide +kernel
theorem dX9_init_95 : decode cX9_init 95 = .ok (.aload_n 0, 1) := by decide +kernel
theorem dX9_init_96 : decode cX9_init 96 = .ok (.iconst 3, 1) := by decide +kernel
theorem dX9_init_97 : decode cX9_init 97 = .ok (.newarray .int, 2) := by decide +kernel
theorem dX9_init_99 : decode cX9_init 99 = .ok (.putfield 48, 3) := by decide +kernel
theorem dX9_init_102 : decode cX9_init 102 = .ok (.aload_n 0, 1) := by decide +kernel
theorem dX9_init_103 : decode cX9_init 103 = .ok (.getfield 7, 3) := by decide +kernel
theorem dX9_init_106 : decode cX9_init 106 = .ok (.invokestatic 51, 3) := by decide +kernel
theorem dX9_init_109 : decode cX9_init 109 = .ok (.return_, 1) := by decide +kernel
theorem dX9_in_0 : decode cX9_in 0 = .ok (.lload_n 0, 1) := by decide +kernel
theorem dX9_in_1 : decode cX9_in 1 = .ok (.lload_n 2, 1) := by decide +kernel
theorem dX9_in_2 : decode cX9_in 2 = .ok (.lcmp, 1) := by decide +kernel
theorem dX9_in_3 : decode cX9_in 3 = .ok (.ifCond .lt 14, 3) := by decide +kernel
theorem dX9_in_6 : decode cX9_in 6 = .ok (.lload_n 0, 1) := by decide +kernel
theorem dX9_in_7 : decode cX9_in 7 = .ok (.lload 4, 2) := by decide +kernel
theorem dX9_in_9 : decode cX9_in 9 = .ok (.lcmp, 1) := by decide +kernel
theorem dX9_in_10 : decode cX9_in 10 = .ok (.ifCond .gt 7, 3) := by decide +kernel
theorem dX9_in_13 : decode cX9_in 13 = .ok (.iconst 1, 1) := by decide +kernel
theorem dX9_in_14 : decode cX9_in 14 = .ok (.goto 4, 3) := by decide +kernel
theorem dX9_in_17 : decode cX9_in 17 = .ok (.iconst 0, 1) := by decide +kernel
theorem dX9_in_18 : decode cX9_in 18 = .ok (.ireturn, 1) := by decide +kernel
theorem dX9_bad_0 : decode cX9_bad 0 = .ok (.aload_n 0, 1) := by decide +kernel
theorem dX9_bad_1 : decode cX9_bad 1 = .ok (.getfield 20, 3) := by decide +kernel
theorem dX9_bad_4 : decode cX9_bad 4 = .ok (.iconst 0, 1) := by decide +kernel
theorem dX9_bad_5 : decode cX9_bad 5 = .ok (.dup2, 1) := by decide +kernel
theorem dX9_bad_6 : decode cX9_bad 6 = .ok (.iaload, 1) := by decide +kernel
theorem dX9_bad_7 : decode cX9_bad 7 = .ok (.iconst 1, 1) := by decide +kernel
theorem dX9_bad_8 : decode cX9_bad 8 = .ok (.iadd, 1) := by decide +kernel
theorem dX9_bad_9 : decode cX9_bad 9 = .ok (.iastore, 1) := by decide +kernel
theorem dX9_bad_10 : decode cX9_bad 10 = .ok (.iload_n 1, 1) := by decide +kernel
theorem dX9_bad_11 : decode cX9_bad 11 = .ok (.ireturn, 1) := by decide +kernel
theorem dX9_no_0 : decode cX9_no 0 = .ok (.aload_n 0, 1) := by decide +kernel
theorem dX9_no_1 : decode cX9_no 1 = .ok (.getfield 20, 3) := by decide +kernel
theorem dX9_no_4 : decode cX9_no 4 = .ok (.iconst 1, 1) := by decide +kernel
theorem dX9_no_5 : decode cX9_no 5 = .ok (.dup2, 1) := by decide +kernel
theorem dX9_no_6 : decode cX9_no 6 = .ok (.iaload, 1) := by decide +kernel
theorem dX9_no_7 : decode cX9_no 7 = .ok (.iconst 1, 1) := by decide +kernel
theorem dX9_no_8 : decode cX9_no 8 = .ok (.iadd, 1) := by decide +kernel
theorem dX9_no_9 : decode cX9_no 9 = .ok (.iastore, 1) := by decide +kernel
theorem dX9_no_10 : decode cX9_no 10 = .ok (.bipush (-3), 2) := by decide +kernel
theorem dX9_no_12 : decode cX9_no 12 = .ok (.ireturn, 1) := by decide +kernel
theorem dX9_full_0 : decode cX9_full 0 = .ok (.aload_n 0, 1) := by decide +kernel
theorem dX9_full_1 : decode cX9_full 1 = .ok (.getfield 20, 3) := by decide +kernel
theorem dX9_full_4 : decode cX9_full 4 = .ok (.iconst 2, 1) := by decide +kernel
theorem dX9_full_5 : decode cX9_full 5 = .ok (.dup2, 1) := by decide +kernel
theorem dX9_full_6 : decode cX9_full 6 = .ok (.iaload, 1) := by decide +kernel
theorem dX9_full_7 : decode cX9_full 7 = .ok (.iconst 1, 1) := by decide +kernel
theorem dX9_full_8 : decode cX9_full 8 = .ok (.iadd, 1) := by decide +kernel
theorem dX9_full_9 : decode cX9_full 9 = .ok (.iastore, 1) := by decide +kernel
theorem dX9_full_10 : decode cX9_full 10 = .ok (.bipush (-4), 2) := by decide +kernel
theorem dX9_full_12 : decode cX9_full 12 = .ok (.ireturn, 1) := by decide +kernel
theorem dX9_bits_0 : decode cX9_bits 0 = .ok (.iconst 0, 1) := by decide +kernel
theorem dX9_bits_1 : decode cX9_bits 1 = .ok (.istore_n 1, 1) := by decide +kernel
theorem dX9_bits_2 : decode cX9_bits 2 = .ok (.iload_n 0, 1) := by decide +kernel
theorem dX9_bits_3 : decode cX9_bits 3 = .ok (.istore_n 2, 1) := by decide +kernel
theorem dX9_bits_4 : decode cX9_bits 4 = .ok (.iload_n 2, 1) := by decide +kernel
theorem dX9_bits_5 : decode cX9_bits 5 = .ok (.ifCond .le 16, 3) := by decide +kernel
theorem dX9_bits_8 : decode cX9_bits 8 = .ok (.iload_n 1, 1) := by decide +kernel
theorem dX9_bits_9 : decode cX9_bits 9 = .ok (.iload_n 2, 1) := by decide +kernel
theorem dX9_bits_10 : decode cX9_bits 10 = .ok (.iconst 1, 1) := by decide +kernel
theorem dX9_bits_11 : decode cX9_bits 11 = .ok (.iand, 1) := by decide +kernel
theorem dX9_bits_12 : decode cX9_bits 12 = .ok (.iadd, 1) := by decide +kernel
theorem dX9_bits_13 : decode cX9_bits 13 = .ok (.istore_n 1, 1) := by decide +kernel
theorem dX9_bits_14 : decode cX9_bits 14 = .ok (.iload_n 2, 1) := by decide +kernel
theorem dX9_bits_15 : decode cX9_bits 15 = .ok (.iconst 1, 1) := by decide +kernel
theorem dX9_bits_16 : decode cX9_bits 16 = .ok (.ishr, 1) := by decide +kernel
theorem dX9_bits_17 : decode cX9_bits 17 = .ok (.istore_n 2, 1) := by decide +kernel
theorem dX9_bits_18 : decode cX9_bits 18 = .ok (.goto (-14), 3) := by decide +kernel
theorem dX9_bits_21 : decode cX9_bits 21 = .ok (.iload_n 1, 1) := by decide +kernel
theorem dX9_bits_22 : decode cX9_bits 22 = .ok (.ireturn, 1) := by decide +kernel
theorem dX9_has_0 : decode cX9_has 0 = .ok (.iload_n 0, 1) := by decide +kernel
theorem dX9_has_1 : decode cX9_has 1 = .ok (.iload_n 1, 1) := by decide +kernel
theorem dX9_has_2 : decode cX9_has 2 = .ok (.ishr, 1) := by decide +kernel
theorem dX9_has_3 : decode cX9_has 3 = .ok (.iconst 1, 1) := by decide +kernel
theorem dX9_has_4 : decode cX9_has 4 = .ok (.iand, 1) := by decide +kernel
theorem dX9_has_5 : decode cX9_has 5 = .ok (.iconst 1, 1) := by decide +kernel
theorem dX9_has_6 : decode cX9_has 6 = .ok (.if_icmp .ne 7, 3) := by decide +kernel
theorem dX9_has_9 : decode cX9_has 9 = .ok (.iconst 1, 1) := by decide +kernel
theorem dX9_has_10 : decode cX9_has 10 = .ok (.goto 4, 3) := by decide +kernel
theorem dX9_has_13 : decode cX9_has 13 = .ok (.iconst 0, 1) := by decide +kernel
theorem dX9_has_14 : decode cX9_has 14 = .ok (.ireturn, 1) := by decide +kernel
theorem dX9_begin_0 : decode cX9_begin 0 = .ok (.iconst 0, 1) := by decide +kernel
theorem dX9_begin_1 : decode cX9_begin 1 = .ok (.istore_n 1, 1) := by decide +kernel
theorem dX9_begin_2 : decode cX9_begin 2 = .ok (.iload_n 1, 1) := by decide +kernel
theorem dX9_begin_3 : decode cX9_begin 3 = .ok (.bipush 112, 2) := by decide +kernel
theorem dX9_begin_5 : decode cX9_begin 5 = .ok (.if_icmp .ge 13, 3) := by decide +kernel
theorem dX9_begin_8 : decode cX9_begin 8 = .ok (.aload_n 0, 1) := by decide +kernel
theorem dX9_begin_9 : decode cX9_begin 9 = .ok (.iload_n 1, 1) := by decide +kernel
theorem dX9_begin_10 : decode cX9_begin 10 = .ok (.iconst 0, 1) := by decide +kernel
theorem dX9_begin_11 : decode cX9_begin 11 = .ok (.iastore, 1) := by decide +kernel
theorem dX9_begin_12 : decode cX9_begin 12 = .ok (.iinc 1 1, 3) := by decide +kernel
theorem dX9_begin_15 : decode cX9_begin 15 = .ok (.goto (-13), 3) := by decide +kernel
theorem dX9_begin_18 : decode cX9_begin 18 = .ok (.return_, 1) := by decide +kernel
theorem dX9_many_0 : decode cX9_many 0 = .ok (.aload_n 0, 1) := by decide +kernel
theorem dX9_many_1 : decode cX9_many 1 = .ok (.getfield 7, 3) := by decide +kernel
theorem dX9_many_4 : decode cX9_many 4 = .ok (.iconst 0, 1) := by decide +kernel
theorem dX9_many_5 : decode cX9_many 5 = .ok (.iaload, 1) := by decide +kernel
theorem dX9_many_6 : decode cX9_many 6 = .ok (.ireturn, 1) := by decide +kernel
theorem dX9_manyWatchers_0 : decode cX9_manyWatchers 0 = .ok (.aload_n 0, 1) := by decide +kernel
theorem dX9_manyWatchers_1 : decode cX9_manyWatchers 1 = .ok (.getfield 7, 3) := by decide +kernel
theorem dX9_manyWatchers_4 : decode cX9_manyWatchers 4 = .ok (.iconst 1, 1) := by decide +kernel
theorem dX9_manyWatchers_5 : decode cX9_manyWatchers 5 = .ok (.iaload, 1) := by decide +kernel
theorem dX9_manyWatchers_6 : decode cX9_manyWatchers 6 = .ok (.ireturn, 1) := by decide +kernel
theorem dX9_isShow_0 : decode cX9_isShow 0 = .ok (.iload_n 1, 1) := by decide +kernel
theorem dX9_isShow_1 : decode cX9_isShow 1 = .ok (.i2l, 1) := by decide +kernel
theorem dX9_isShow_2 : decode cX9_isShow 2 = .ok (.lconst 0, 1) := by decide +kernel
theorem dX9_isShow_3 : decode cX9_isShow 3 = .ok (.aload_n 0, 1) := by decide +kernel
theorem dX9_isShow_4 : decode cX9_isShow 4 = .ok (.invokevirtual 55, 3) := by decide +kernel
theorem dX9_isShow_7 : decode cX9_isShow 7 = .ok (.iconst 1, 1) := by decide +kernel
theorem dX9_isShow_8 : decode cX9_isShow 8 = .ok (.isub, 1) := by decide +kernel
theorem dX9_isShow_9 : decode cX9_isShow 9 = .ok (.i2l, 1) := by decide +kernel
theorem dX9_isShow_10 : decode cX9_isShow 10 = .ok (.invokestatic 59, 3) := by decide +kernel
theorem dX9_isShow_13 : decode cX9_isShow 13 = .ok (.ireturn, 1) := by decide +kernel
theorem dX9_isWatcher_0 : decode cX9_isWatcher 0 = .ok (.iload_n 1, 1) := by decide +kernel
theorem dX9_isWatcher_1 : decode cX9_isWatcher 1 = .ok (.i2l, 1) := by decide +kernel
theorem dX9_isWatcher_2 : decode cX9_isWatcher 2 = .ok (.lconst 0, 1) := by decide +kernel
theorem dX9_isWatcher_3 : decode cX9_isWatcher 3 = .ok (.aload_n 0, 1) := by decide +kernel
theorem dX9_isWatcher_4 : decode cX9_isWatcher 4 = .ok (.invokevirtual 63, 3) := by decide +kernel
theorem dX9_isWatcher_7 : decode cX9_isWatcher 7 = .ok (.iconst 1, 1) := by decide +kernel
theorem dX9_isWatcher_8 : decode cX9_isWatcher 8 = .ok (.isub, 1) := by decide +kernel
theorem dX9_isWatcher_9 : decode cX9_isWatcher 9 = .ok (.i2l, 1) := by decide +kernel
theorem dX9_isWatcher_10 : decode cX9_isWatcher 10 = .ok (.invokestatic 59, 3) := by decide +kernel
theorem dX9_isWatcher_13 : decode cX9_isWatcher 13 = .ok (.ireturn, 1) := by decide +kernel
theorem dX9_isCell_0 : decode cX9_isCell 0 = .ok (.iload_n 0, 1) := by decide +kernel
theorem dX9_isCell_1 : decode cX9_isCell 1 = .ok (.i2l, 1) := by decide +kernel
theorem dX9_isCell_2 : decode cX9_isCell 2 = .ok (.lconst 0, 1) := by decide +kernel
theorem dX9_isCell_3 : decode cX9_isCell 3 = .ok (.ldc2_w 66, 3) := by decide +kernel
theorem dX9_isCell_6 : decode cX9_isCell 6 = .ok (.invokestatic 59, 3) := by decide +kernel
theorem dX9_isCell_9 : decode cX9_isCell 9 = .ok (.ireturn, 1) := by decide +kernel
theorem dX9_isStep_0 : decode cX9_isStep 0 = .ok (.iload_n 0, 1) := by decide +kernel
theorem dX9_isStep_1 : decode cX9_isStep 1 = .ok (.i2l, 1) := by decide +kernel
theorem dX9_isStep_2 : decode cX9_isStep 2 = .ok (.lconst 0, 1) := by decide +kernel
theorem dX9_isStep_3 : decode cX9_isStep 3 = .ok (.ldc2_w 68, 3) := by decide +kernel
theorem dX9_isStep_6 : decode cX9_isStep 6 = .ok (.invokestatic 59, 3) := by decide +kernel
theorem dX9_isStep_9 : decode cX9_isStep 9 = .ok (.ireturn, 1) := by decide +kernel
theorem dX9_isFar_0 : decode cX9_isFar 0 = .ok (.iload_n 0, 1) := by decide +kernel
theorem dX9_isFar_1 : decode cX9_isFar 1 = .ok (.i2l, 1) := by decide +kernel
theorem dX9_isFar_2 : decode cX9_isFar 2 = .ok (.lconst 0, 1) := by decide +kernel
theorem dX9_isFar_3 : decode cX9_isFar 3 = .ok (.ldc2_w 70, 3) := by decide +kernel
theorem dX9_isFar_6 : decode cX9_isFar 6 = .ok (.invokestatic 59, 3) := by decide +kernel
theorem dX9_isFar_9 : decode cX9_isFar 9 = .ok (.ireturn, 1) := by decide +kernel
theorem dX9_land_0 : decode cX9_land 0 = .ok (.aload_n 0, 1) := by decide +kernel
theorem dX9_land_1 : decode cX9_land 1 = .ok (.invokevirtual 63, 3) := by decide +kernel
theorem dX9_land_4 : decode cX9_land 4 = .ok (.istore_n 1, 1) := by decide +kernel
theorem dX9_land_5 : decode cX9_land 5 = .ok (.aload_n 0, 1) := by decide +kernel
theorem dX9_land_6 : decode cX9_land 6 = .ok (.getfield 7, 3) := by decide +kernel
theorem dX9_land_9 : decode cX9_land 9 = .ok (.invokestatic 51, 3) := by decide +kernel
theorem dX9_land_12 : decode cX9_land 12 = .ok (.iload_n 1, 1) := by decide +kernel
theorem dX9_land_13 : decode cX9_land 13 = .ok (.ireturn, 1) := by decide +kernel
theorem dX9_layShow_0 : decode cX9_layShow 0 = .ok (.aload_n 0, 1) := by decide +kernel
theorem dX9_layShow_1 : decode cX9_layShow 1 = .ok (.iconst 0, 1) := by decide +kernel
theorem dX9_layShow_2 : decode cX9_layShow 2 = .ok (.iaload, 1) := by decide +kernel
theorem dX9_layShow_3 : decode cX9_layShow 3 = .ok (.istore 4, 2) := by decide +kernel
theorem dX9_layShow_5 : decode cX9_layShow 5 = .ok (.aload_n 0, 1) := by decide +kernel
theorem dX9_layShow_6 : decode cX9_layShow 6 = .ok (.bipush 30, 2) := by decide +kernel
theorem dX9_layShow_8 : decode cX9_layShow 8 = .ok (.iload 4, 2) := by decide +kernel
theorem dX9_layShow_10 : decode cX9_layShow 10 = .ok (.iadd, 1) := by decide +kernel
theorem dX9_layShow_11 : decode cX9_layShow 11 = .ok (.iload_n 1, 1) := by decide +kernel
theorem dX9_layShow_12 : decode cX9_layShow 12 = .ok (.iastore, 1) := by decide +kernel
theorem dX9_layShow_13 : decode cX9_layShow 13 = .ok (.aload_n 0, 1) := by decide +kernel
theorem dX9_layShow_14 : decode cX9_layShow 14 = .ok (.bipush 14, 2) := by decide +kernel
theorem dX9_layShow_16 : decode cX9_layShow 16 = .ok (.iload 4, 2) := by decide +kernel
theorem dX9_layShow_18 : decode cX9_layShow 18 = .ok (.iadd, 1) := by decide +kernel
theorem dX9_layShow_19 : decode cX9_layShow 19 = .ok (.iload_n 2, 1) := by decide +kernel
theorem dX9_layShow_20 : decode cX9_layShow 20 = .ok (.iastore, 1) := by decide +kernel
theorem dX9_layShow_21 : decode cX9_layShow 21 = .ok (.aload_n 0, 1) := by decide +kernel
theorem dX9_layShow_22 : decode cX9_layShow 22 = .ok (.bipush 35, 2) := by decide +kernel
theorem dX9_layShow_24 : decode cX9_layShow 24 = .ok (.iload 4, 2) := by decide +kernel
theorem dX9_layShow_26 : decode cX9_layShow 26 = .ok (.iadd, 1) := by decide +kernel
theorem dX9_layShow_27 : decode cX9_layShow 27 = .ok (.iload_n 3, 1) := by decide +kernel
theorem dX9_layShow_28 : decode cX9_layShow 28 = .ok (.iastore, 1) := by decide +kernel
theorem dX9_layShow_29 : decode cX9_layShow 29 = .ok (.aload_n 0, 1) := by decide +kernel
theorem dX9_layShow_30 : decode cX9_layShow 30 = .ok (.bipush 25, 2) := by decide +kernel
theorem dX9_layShow_32 : decode cX9_layShow 32 = .ok (.iload 4, 2) := by decide +kernel
theorem dX9_layShow_34 : decode cX9_layShow 34 = .ok (.iadd, 1) := by decide +kernel
theorem dX9_layShow_35 : decode cX9_layShow 35 = .ok (.iconst 1, 1) := by decide +kernel
theorem dX9_layShow_36 : decode cX9_layShow 36 = .ok (.iastore, 1) := by decide +kernel
theorem dX9_layShow_37 : decode cX9_layShow 37 = .ok (.aload_n 0, 1) := by decide +kernel
theorem dX9_layShow_38 : decode cX9_layShow 38 = .ok (.iconst 0, 1) := by decide +kernel
theorem dX9_layShow_39 : decode cX9_layShow 39 = .ok (.dup2, 1) := by decide +kernel
theorem dX9_layShow_40 : decode cX9_layShow 40 = .ok (.iaload, 1) := by decide +kernel
theorem dX9_layShow_41 : decode cX9_layShow 41 = .ok (.iconst 1, 1) := by decide +kernel
theorem dX9_layShow_42 : decode cX9_layShow 42 = .ok (.iadd, 1) := by decide +kernel
theorem dX9_layShow_43 : decode cX9_layShow 43 = .ok (.iastore, 1) := by decide +kernel
theorem dX9_layShow_44 : decode cX9_layShow 44 = .ok (.return_, 1) := by decide +kernel
theorem dX9_show_0 : decode cX9_show 0 = .ok (.iload_n 1, 1) := by decide +kernel
theorem dX9_show_1 : decode cX9_show 1 = .ok (.i2l, 1) := by decide +kernel
theorem dX9_show_2 : decode cX9_show 2 = .ok (.lconst 0, 1) := by decide +kernel
theorem dX9_show_3 : decode cX9_show 3 = .ok (.ldc2_w 72, 3) := by decide +kernel
theorem dX9_show_6 : decode cX9_show 6 = .ok (.invokestatic 59, 3) := by decide +kernel
theorem dX9_show_9 : decode cX9_show 9 = .ok (.ifCond .eq 22, 3) := by decide +kernel
theorem dX9_show_12 : decode cX9_show 12 = .ok (.iload_n 2, 1) := by decide +kernel
theorem dX9_show_13 : decode cX9_show 13 = .ok (.invokestatic 74, 3) := by decide +kernel
theorem dX9_show_16 : decode cX9_show 16 = .ok (.ifCond .eq 15, 3) := by decide +kernel
theorem dX9_show_19 : decode cX9_show 19 = .ok (.iload_n 3, 1) := by decide +kernel
theorem dX9_show_20 : decode cX9_show 20 = .ok (.i2l, 1) := by decide +kernel
theorem dX9_show_21 : decode cX9_show 21 = .ok (.lconst 1, 1) := by decide +kernel
theorem dX9_show_22 : decode cX9_show 22 = .ok (.ldc2_w 70, 3) := by decide +kernel
theorem dX9_show_25 : decode cX9_show 25 = .ok (.invokestatic 59, 3) := by decide +kernel
theorem dX9_show_28 : decode cX9_show 28 = .ok (.ifCond .ne 10, 3) := by decide +kernel
theorem dX9_show_31 : decode cX9_show 31 = .ok (.aload_n 0, 1) := by decide +kernel
theorem dX9_show_32 : decode cX9_show 32 = .ok (.bipush (-2), 2) := by decide +kernel
theorem dX9_show_34 : decode cX9_show 34 = .ok (.invokevirtual 78, 3) := by decide +kernel
theorem dX9_show_37 : decode cX9_show 37 = .ok (.ireturn, 1) := by decide +kernel
theorem dX9_show_38 : decode cX9_show 38 = .ok (.aload_n 0, 1) := by decide +kernel
theorem dX9_show_39 : decode cX9_show 39 = .ok (.invokevirtual 55, 3) := by decide +kernel
theorem dX9_show_42 : decode cX9_show 42 = .ok (.iconst 5, 1) := by decide +kernel
theorem dX9_show_43 : decode cX9_show 43 = .ok (.if_icmp .ne 8, 3) := by decide +kernel
theorem dX9_show_46 : decode cX9_show 46 = .ok (.aload_n 0, 1) := by decide +kernel
theorem dX9_show_47 : decode cX9_show 47 = .ok (.invokevirtual 82, 3) := by decide +kernel
theorem dX9_show_50 : decode cX9_show 50 = .ok (.ireturn, 1) := by decide +kernel
theorem dX9_show_51 : decode cX9_show 51 = .ok (.aload_n 0, 1) := by decide +kernel
theorem dX9_show_52 : decode cX9_show 52 = .ok (.getfield 7, 3) := by decide +kernel
theorem dX9_show_55 : decode cX9_show 55 = .ok (.iload_n 1, 1) := by decide +kernel
theorem dX9_show_56 : decode cX9_show 56 = .ok (.iload_n 2, 1) := by decide +kernel
theorem dX9_show_57 : decode cX9_show 57 = .ok (.iload_n 3, 1) := by decide +kernel
theorem dX9_show_58 : decode cX9_show 58 = .ok (.invokestatic 85, 3) := by decide +kernel
theorem dX9_show_61 : decode cX9_show 61 = .ok (.aload_n 0, 1) := by decide +kernel
theorem dX9_show_62 : decode cX9_show 62 = .ok (.getfield 7, 3) := by decide +kernel
theorem dX9_show_65 : decode cX9_show 65 = .ok (.iconst 5, 1) := by decide +kernel
theorem dX9_show_66 : decode cX9_show 66 = .ok (.iconst 0, 1) := by decide +kernel
theorem dX9_show_67 : decode cX9_show 67 = .ok (.iastore, 1) := by decide +kernel
theorem dX9_show_68 : decode cX9_show 68 = .ok (.aload_n 0, 1) := by decide +kernel
theorem dX9_show_69 : decode cX9_show 69 = .ok (.invokevirtual 55, 3) := by decide +kernel
theorem dX9_show_72 : decode cX9_show 72 = .ok (.iconst 1, 1) := by decide +kernel
theorem dX9_show_73 : decode cX9_show 73 = .ok (.isub, 1) := by decide +kernel
theorem dX9_show_74 : decode cX9_show 74 = .ok (.ireturn, 1) := by decide +kernel
theorem dX9_layWatcher_0 : decode cX9_layWatcher 0 = .ok (.aload_n 0, 1) := by decide +kernel
theorem dX9_layWatcher_1 : decode cX9_layWatcher 1 = .ok (.iconst 1, 1) := by decide +kernel
theorem dX9_layWatcher_2 : decode cX9_layWatcher 2 = .ok (.iaload, 1) := by decide +kernel
theorem dX9_layWatcher_3 : decode cX9_layWatcher 3 = .ok (.istore_n 3, 1) := by decide +kernel
theorem dX9_layWatcher_4 : decode cX9_layWatcher 4 = .ok (.aload_n 0, 1) := by decide +kernel
theorem dX9_layWatcher_5 : decode cX9_layWatcher 5 = .ok (.bipush 40, 2) := by decide +kernel
theorem dX9_layWatcher_7 : decode cX9_layWatcher 7 = .ok (.iload_n 3, 1) := by decide +kernel
theorem dX9_layWatcher_8 : decode cX9_layWatcher 8 = .ok (.iadd, 1) := by decide +kernel
theorem dX9_layWatcher_9 : decode cX9_layWatcher 9 = .ok (.iload_n 1, 1) := by decide +kernel
theorem dX9_layWatcher_10 : decode cX9_layWatcher 10 = .ok (.iastore, 1) := by decide +kernel
theorem dX9_layWatcher_11 : decode cX9_layWatcher 11 = .ok (.aload_n 0, 1) := by decide +kernel
theorem dX9_layWatcher_12 : decode cX9_layWatcher 12 = .ok (.bipush 19, 2) := by decide +kernel
theorem dX9_layWatcher_14 : decode cX9_layWatcher 14 = .ok (.iload_n 3, 1) := by decide +kernel
theorem dX9_layWatcher_15 : decode cX9_layWatcher 15 = .ok (.iadd, 1) := by decide +kernel
theorem dX9_layWatcher_16 : decode cX9_layWatcher 16 = .ok (.iload_n 2, 1) := by decide +kernel
theorem dX9_layWatcher_17 : decode cX9_layWatcher 17 = .ok (.iastore, 1) := by decide +kernel
theorem dX9_layWatcher_18 : decode cX9_layWatcher 18 = .ok (.aload_n 0, 1) := by decide +kernel
theorem dX9_layWatcher_19 : decode cX9_layWatcher 19 = .ok (.bipush 6, 2) := by decide +kernel
theorem dX9_layWatcher_21 : decode cX9_layWatcher 21 = .ok (.iload_n 3, 1) := by decide +kernel
theorem dX9_layWatcher_22 : decode cX9_layWatcher 22 = .ok (.iadd, 1) := by decide +kernel
theorem dX9_layWatcher_23 : decode cX9_layWatcher 23 = .ok (.iconst 0, 1) := by decide +kernel
theorem dX9_layWatcher_24 : decode cX9_layWatcher 24 = .ok (.iastore, 1) := by decide +kernel
theorem dX9_layWatcher_25 : decode cX9_layWatcher 25 = .ok (.aload_n 0, 1) := by decide +kernel
theorem dX9_layWatcher_26 : decode cX9_layWatcher 26 = .ok (.iconst 1, 1) := by decide +kernel
theorem dX9_layWatcher_27 : decode cX9_layWatcher 27 = .ok (.dup2, 1) := by decide +kernel
theorem dX9_layWatcher_28 : decode cX9_layWatcher 28 = .ok (.iaload, 1) := by decide +kernel
theorem dX9_layWatcher_29 : decode cX9_layWatcher 29 = .ok (.iconst 1, 1) := by decide +kernel
theorem dX9_layWatcher_30 : decode cX9_layWatcher 30 = .ok (.iadd, 1) := by decide +kernel
theorem dX9_layWatcher_31 : decode cX9_layWatcher 31 = .ok (.iastore, 1) := by decide +kernel
theorem dX9_layWatcher_32 : decode cX9_layWatcher 32 = .ok (.return_, 1) := by decide +kernel
theorem dX9_watcher_0 : decode cX9_watcher 0 = .ok (.iload_n 1, 1) := by decide +kernel
theorem dX9_watcher_1 : decode cX9_watcher 1 = .ok (.i2l, 1) := by decide +kernel
theorem dX9_watcher_2 : decode cX9_watcher 2 = .ok (.lconst 0, 1) := by decide +kernel
theorem dX9_watcher_3 : decode cX9_watcher 3 = .ok (.ldc2_w 72, 3) := by decide +kernel
theorem dX9_watcher_6 : decode cX9_watcher 6 = .ok (.invokestatic 59, 3) := by decide +kernel
theorem dX9_watcher_9 : decode cX9_watcher 9 = .ok (.ifCond .eq 10, 3) := by decide +kernel
theorem dX9_watcher_12 : decode cX9_watcher 12 = .ok (.iload_n 2, 1) := by decide +kernel
theorem dX9_watcher_13 : decode cX9_watcher 13 = .ok (.invokestatic 74, 3) := by decide +kernel
theorem dX9_watcher_16 : decode cX9_watcher 16 = .ok (.ifCond .ne 10, 3) := by decide +kernel
theorem dX9_watcher_19 : decode cX9_watcher 19 = .ok (.aload_n 0, 1) := by decide +kernel
theorem dX9_watcher_20 : decode cX9_watcher 20 = .ok (.bipush (-2), 2) := by decide +kernel
theorem dX9_watcher_22 : decode cX9_watcher 22 = .ok (.invokevirtual 78, 3) := by decide +kernel
theorem dX9_watcher_25 : decode cX9_watcher 25 = .ok (.ireturn, 1) := by decide +kernel
theorem dX9_watcher_26 : decode cX9_watcher 26 = .ok (.aload_n 0, 1) := by decide +kernel
theorem dX9_watcher_27 : decode cX9_watcher 27 = .ok (.invokevirtual 63, 3) := by decide +kernel
theorem dX9_watcher_30 : decode cX9_watcher 30 = .ok (.bipush 6, 2) := by decide +kernel
theorem dX9_watcher_32 : decode cX9_watcher 32 = .ok (.if_icmp .ne 8, 3) := by decide +kernel
theorem dX9_watcher_35 : decode cX9_watcher 35 = .ok (.aload_n 0, 1) := by decide +kernel
theorem dX9_watcher_36 : decode cX9_watcher 36 = .ok (.invokevirtual 82, 3) := by decide +kernel
theorem dX9_watcher_39 : decode cX9_watcher 39 = .ok (.ireturn, 1) := by decide +kernel
theorem dX9_watcher_40 : decode cX9_watcher 40 = .ok (.aload_n 0, 1) := by decide +kernel
theorem dX9_watcher_41 : decode cX9_watcher 41 = .ok (.getfield 7, 3) := by decide +kernel
theorem dX9_watcher_44 : decode cX9_watcher 44 = .ok (.iload_n 1, 1) := by decide +kernel
theorem dX9_watcher_45 : decode cX9_watcher 45 = .ok (.iload_n 2, 1) := by decide +kernel
theorem dX9_watcher_46 : decode cX9_watcher 46 = .ok (.invokestatic 89, 3) := by decide +kernel
theorem dX9_watcher_49 : decode cX9_watcher 49 = .ok (.aload_n 0, 1) := by decide +kernel
theorem dX9_watcher_50 : decode cX9_watcher 50 = .ok (.getfield 7, 3) := by decide +kernel
theorem dX9_watcher_53 : decode cX9_watcher 53 = .ok (.iconst 5, 1) := by decide +kernel
theorem dX9_watcher_54 : decode cX9_watcher 54 = .ok (.iconst 0, 1) := by decide +kernel
theorem dX9_watcher_55 : decode cX9_watcher 55 = .ok (.iastore, 1) := by decide +kernel
theorem dX9_watcher_56 : decode cX9_watcher 56 = .ok (.aload_n 0, 1) := by decide +kernel
theorem dX9_watcher_57 : decode cX9_watcher 57 = .ok (.invokevirtual 63, 3) := by decide +kernel
theorem dX9_watcher_60 : decode cX9_watcher 60 = .ok (.iconst 1, 1) := by decide +kernel
theorem dX9_watcher_61 : decode cX9_watcher 61 = .ok (.isub, 1) := by decide +kernel
theorem dX9_watcher_62 : decode cX9_watcher 62 = .ok (.ireturn, 1) := by decide +kernel
theorem dX9_plainPull_0 : decode cX9_plainPull 0 = .ok (.iconst 2, 1) := by decide +kernel
theorem dX9_plainPull_1 : decode cX9_plainPull 1 = .ok (.iload_n 1, 1) := by decide +kernel
theorem dX9_plainPull_2 : decode cX9_plainPull 2 = .ok (.imul, 1) := by decide +kernel
theorem dX9_plainPull_3 : decode cX9_plainPull 3 = .ok (.iload_n 0, 1) := by decide +kernel
theorem dX9_plainPull_4 : decode cX9_plainPull 4 = .ok (.if_icmp .le 11, 3) := by decide +kernel
theorem dX9_plainPull_7 : decode cX9_plainPull 7 = .ok (.iconst 2, 1) := by decide +kernel
theorem dX9_plainPull_8 : decode cX9_plainPull 8 = .ok (.iload_n 1, 1) := by decide +kernel
theorem dX9_plainPull_9 : decode cX9_plainPull 9 = .ok (.imul, 1) := by decide +kernel
theorem dX9_plainPull_10 : decode cX9_plainPull 10 = .ok (.iload_n 0, 1) := by decide +kernel
theorem dX9_plainPull_11 : decode cX9_plainPull 11 = .ok (.isub, 1) := by decide +kernel
theorem dX9_plainPull_12 : decode cX9_plainPull 12 = .ok (.goto 4, 3) := by decide +kernel
theorem dX9_plainPull_15 : decode cX9_plainPull 15 = .ok (.iconst 0, 1) := by decide +kernel
theorem dX9_plainPull_16 : decode cX9_plainPull 16 = .ok (.ireturn, 1) := by decide +kernel
theorem dX9_firePull_0 : decode cX9_firePull 0 = .ok (.iconst 2, 1) := by decide +kernel
theorem dX9_firePull_1 : decode cX9_firePull 1 = .ok (.iload_n 0, 1) := by decide +kernel
theorem dX9_firePull_2 : decode cX9_firePull 2 = .ok (.iload_n 2, 1) := by decide +kernel
theorem dX9_firePull_3 : decode cX9_firePull 3 = .ok (.invokestatic 93, 3) := by decide +kernel
theorem dX9_firePull_6 : decode cX9_firePull 6 = .ok (.iload_n 1, 1) := by decide +kernel
theorem dX9_firePull_7 : decode cX9_firePull 7 = .ok (.iconst 2, 1) := by decide +kernel
theorem dX9_firePull_8 : decode cX9_firePull 8 = .ok (.irem, 1) := by decide +kernel
theorem dX9_firePull_9 : decode cX9_firePull 9 = .ok (.ifCond .ne 7, 3) := by decide +kernel
theorem dX9_firePull_12 : decode cX9_firePull 12 = .ok (.iconst 3, 1) := by decide +kernel
theorem dX9_firePull_13 : decode cX9_firePull 13 = .ok (.goto 4, 3) := by decide +kernel
theorem dX9_firePull_16 : decode cX9_firePull 16 = .ok (.iconst 0, 1) := by decide +kernel
theorem dX9_firePull_17 : decode cX9_firePull 17 = .ok (.iadd, 1) := by decide +kernel
theorem dX9_firePull_18 : decode cX9_firePull 18 = .ok (.imul, 1) := by decide +kernel
theorem dX9_firePull_19 : decode cX9_firePull 19 = .ok (.istore_n 3, 1) := by decide +kernel
theorem dX9_firePull_20 : decode cX9_firePull 20 = .ok (.iload_n 3, 1) := by decide +kernel
theorem dX9_firePull_21 : decode cX9_firePull 21 = .ok (.bipush 30, 2) := by decide +kernel
theorem dX9_firePull_23 : decode cX9_firePull 23 = .ok (.if_icmp .le 8, 3) := by decide +kernel
theorem dX9_firePull_26 : decode cX9_firePull 26 = .ok (.bipush 30, 2) := by decide +kernel
theorem dX9_firePull_28 : decode cX9_firePull 28 = .ok (.goto 4, 3) := by decide +kernel
theorem dX9_firePull_31 : decode cX9_firePull 31 = .ok (.iload_n 3, 1) := by decide +kernel
theorem dX9_firePull_32 : decode cX9_firePull 32 = .ok (.ireturn, 1) := by decide +kernel
theorem dX9_pullAs_0 : decode cX9_pullAs 0 = .ok (.iload_n 1, 1) := by decide +kernel
theorem dX9_pullAs_1 : decode cX9_pullAs 1 = .ok (.iload_n 3, 1) := by decide +kernel
theorem dX9_pullAs_2 : decode cX9_pullAs 2 = .ok (.invokestatic 93, 3) := by decide +kernel
theorem dX9_pullAs_5 : decode cX9_pullAs 5 = .ok (.istore 4, 2) := by decide +kernel
theorem dX9_pullAs_7 : decode cX9_pullAs 7 = .ok (.iload_n 1, 1) := by decide +kernel
theorem dX9_pullAs_8 : decode cX9_pullAs 8 = .ok (.iconst 5, 1) := by decide +kernel
theorem dX9_pullAs_9 : decode cX9_pullAs 9 = .ok (.if_icmp .le 7, 3) := by decide +kernel
theorem dX9_pullAs_12 : decode cX9_pullAs 12 = .ok (.iconst 0, 1) := by decide +kernel
theorem dX9_pullAs_13 : decode cX9_pullAs 13 = .ok (.goto 5, 3) := by decide +kernel
theorem dX9_pullAs_16 : decode cX9_pullAs 16 = .ok (.iload 4, 2) := by decide +kernel
theorem dX9_pullAs_18 : decode cX9_pullAs 18 = .ok (.istore 5, 2) := by decide +kernel
theorem dX9_pullAs_20 : decode cX9_pullAs 20 = .ok (.iload_n 0, 1) := by decide +kernel
theorem dX9_pullAs_21 : decode cX9_pullAs 21 = .ok (.tableswitch 94 1 5 #[35, 51, 54, 61, 78], 35) := by decide +kernel
theorem dX9_pullAs_56 : decode cX9_pullAs 56 = .ok (.iload_n 2, 1) := by decide +kernel
theorem dX9_pullAs_57 : decode cX9_pullAs 57 = .ok (.iconst 2, 1) := by decide +kernel
theorem dX9_pullAs_58 : decode cX9_pullAs 58 = .ok (.irem, 1) := by decide +kernel
theorem dX9_pullAs_59 : decode cX9_pullAs 59 = .ok (.ifCond .ne 10, 3) := by decide +kernel
theorem dX9_pullAs_62 : decode cX9_pullAs 62 = .ok (.iload 4, 2) := by decide +kernel
theorem dX9_pullAs_64 : decode cX9_pullAs 64 = .ok (.iconst 3, 1) := by decide +kernel
theorem dX9_pullAs_65 : decode cX9_pullAs 65 = .ok (.iadd, 1) := by decide +kernel
theorem dX9_pullAs_66 : decode cX9_pullAs 66 = .ok (.goto 5, 3) := by decide +kernel
theorem dX9_pullAs_69 : decode cX9_pullAs 69 = .ok (.iload 4, 2) := by decide +kernel
theorem dX9_pullAs_71 : decode cX9_pullAs 71 = .ok (.ireturn, 1) := by decide +kernel
theorem dX9_pullAs_72 : decode cX9_pullAs 72 = .ok (.iload 5, 2) := by decide +kernel
theorem dX9_pullAs_74 : decode cX9_pullAs 74 = .ok (.ireturn, 1) := by decide +kernel
theorem dX9_pullAs_75 : decode cX9_pullAs 75 = .ok (.iload_n 1, 1) := by decide +kernel
theorem dX9_pullAs_76 : decode cX9_pullAs 76 = .ok (.iload_n 2, 1) := by decide +kernel
theorem dX9_pullAs_77 : decode cX9_pullAs 77 = .ok (.iload_n 3, 1) := by decide +kernel
theorem dX9_pullAs_78 : decode cX9_pullAs 78 = .ok (.invokestatic 97, 3) := by decide +kernel
theorem dX9_pullAs_81 : decode cX9_pullAs 81 = .ok (.ireturn, 1) := by decide +kernel
theorem dX9_pullAs_82 : decode cX9_pullAs 82 = .ok (.iload_n 2, 1) := by decide +kernel
theorem dX9_pullAs_83 : decode cX9_pullAs 83 = .ok (.bipush 6, 2) := by decide +kernel
theorem dX9_pullAs_85 : decode cX9_pullAs 85 = .ok (.if_icmp .lt 12, 3) := by decide +kernel
theorem dX9_pullAs_88 : decode cX9_pullAs 88 = .ok (.iload_n 1, 1) := by decide +kernel
theorem dX9_pullAs_89 : decode cX9_pullAs 89 = .ok (.iload_n 2, 1) := by decide +kernel
theorem dX9_pullAs_90 : decode cX9_pullAs 90 = .ok (.iload_n 3, 1) := by decide +kernel
theorem dX9_pullAs_91 : decode cX9_pullAs 91 = .ok (.invokestatic 97, 3) := by decide +kernel
theorem dX9_pullAs_94 : decode cX9_pullAs 94 = .ok (.goto 4, 3) := by decide +kernel
theorem dX9_pullAs_97 : decode cX9_pullAs 97 = .ok (.iconst 0, 1) := by decide +kernel
theorem dX9_pullAs_98 : decode cX9_pullAs 98 = .ok (.ireturn, 1) := by decide +kernel
theorem dX9_pullAs_99 : decode cX9_pullAs 99 = .ok (.iload 5, 2) := by decide +kernel
theorem dX9_pullAs_101 : decode cX9_pullAs 101 = .ok (.iconst 1, 1) := by decide +kernel
theorem dX9_pullAs_102 : decode cX9_pullAs 102 = .ok (.if_icmp .lt 10, 3) := by decide +kernel
theorem dX9_pullAs_105 : decode cX9_pullAs 105 = .ok (.iload 5, 2) := by decide +kernel
theorem dX9_pullAs_107 : decode cX9_pullAs 107 = .ok (.iconst 1, 1) := by decide +kernel
theorem dX9_pullAs_108 : decode cX9_pullAs 108 = .ok (.iadd, 1) := by decide +kernel
theorem dX9_pullAs_109 : decode cX9_pullAs 109 = .ok (.goto 5, 3) := by decide +kernel
theorem dX9_pullAs_112 : decode cX9_pullAs 112 = .ok (.iload 5, 2) := by decide +kernel
theorem dX9_pullAs_114 : decode cX9_pullAs 114 = .ok (.ireturn, 1) := by decide +kernel
theorem dX9_pullAs_115 : decode cX9_pullAs 115 = .ok (.iload 4, 2) := by decide +kernel
theorem dX9_pullAs_117 : decode cX9_pullAs 117 = .ok (.ireturn, 1) := by decide +kernel
theorem dX9_notesAs_0 : decode cX9_notesAs 0 = .ok (.iload_n 1, 1) := by decide +kernel
theorem dX9_notesAs_1 : decode cX9_notesAs 1 = .ok (.bipush 6, 2) := by decide +kernel
theorem dX9_notesAs_3 : decode cX9_notesAs 3 = .ok (.if_icmp .ge 12, 3) := by decide +kernel
theorem dX9_notesAs_6 : decode cX9_notesAs 6 = .ok (.bipush 12, 2) := by decide +kernel
theorem dX9_notesAs_8 : decode cX9_notesAs 8 = .ok (.iconst 2, 1) := by decide +kernel
theorem dX9_notesAs_9 : decode cX9_notesAs 9 = .ok (.iload_n 1, 1) := by decide +kernel
theorem dX9_notesAs_10 : decode cX9_notesAs 10 = .ok (.imul, 1) := by decide +kernel
theorem dX9_notesAs_11 : decode cX9_notesAs 11 = .ok (.isub, 1) := by decide +kernel
theorem dX9_notesAs_12 : decode cX9_notesAs 12 = .ok (.goto 4, 3) := by decide +kernel
theorem dX9_notesAs_15 : decode cX9_notesAs 15 = .ok (.iconst 0, 1) := by decide +kernel
theorem dX9_notesAs_16 : decode cX9_notesAs 16 = .ok (.istore_n 2, 1) := by decide +kernel
theorem dX9_notesAs_17 : decode cX9_notesAs 17 = .ok (.iload_n 0, 1) := by decide +kernel
theorem dX9_notesAs_18 : decode cX9_notesAs 18 = .ok (.iconst 3, 1) := by decide +kernel
theorem dX9_notesAs_19 : decode cX9_notesAs 19 = .ok (.if_icmp .ne 9, 3) := by decide +kernel
theorem dX9_notesAs_22 : decode cX9_notesAs 22 = .ok (.iload_n 2, 1) := by decide +kernel
theorem dX9_notesAs_23 : decode cX9_notesAs 23 = .ok (.iconst 4, 1) := by decide +kernel
theorem dX9_notesAs_24 : decode cX9_notesAs 24 = .ok (.iadd, 1) := by decide +kernel
theorem dX9_notesAs_25 : decode cX9_notesAs 25 = .ok (.goto 17, 3) := by decide +kernel
theorem dX9_notesAs_28 : decode cX9_notesAs 28 = .ok (.iload_n 0, 1) := by decide +kernel
theorem dX9_notesAs_29 : decode cX9_notesAs 29 = .ok (.iconst 5, 1) := by decide +kernel
theorem dX9_notesAs_30 : decode cX9_notesAs 30 = .ok (.if_icmp .ne 11, 3) := by decide +kernel
theorem dX9_notesAs_33 : decode cX9_notesAs 33 = .ok (.iload_n 2, 1) := by decide +kernel
theorem dX9_notesAs_34 : decode cX9_notesAs 34 = .ok (.iconst 1, 1) := by decide +kernel
theorem dX9_notesAs_35 : decode cX9_notesAs 35 = .ok (.iadd, 1) := by decide +kernel
theorem dX9_notesAs_36 : decode cX9_notesAs 36 = .ok (.iconst 2, 1) := by decide +kernel
theorem dX9_notesAs_37 : decode cX9_notesAs 37 = .ok (.idiv, 1) := by decide +kernel
theorem dX9_notesAs_38 : decode cX9_notesAs 38 = .ok (.goto 4, 3) := by decide +kernel
theorem dX9_notesAs_41 : decode cX9_notesAs 41 = .ok (.iload_n 2, 1) := by decide +kernel
theorem dX9_notesAs_42 : decode cX9_notesAs 42 = .ok (.ireturn, 1) := by decide +kernel
theorem dX9_drawnAs_0 : decode cX9_drawnAs 0 = .ok (.iconst 2, 1) := by decide +kernel
theorem dX9_drawnAs_1 : decode cX9_drawnAs 1 = .ok (.iload_n 1, 1) := by decide +kernel
theorem dX9_drawnAs_2 : decode cX9_drawnAs 2 = .ok (.imul, 1) := by decide +kernel
theorem dX9_drawnAs_3 : decode cX9_drawnAs 3 = .ok (.iconst 2, 1) := by decide +kernel
theorem dX9_drawnAs_4 : decode cX9_drawnAs 4 = .ok (.iadd, 1) := by decide +kernel
theorem dX9_drawnAs_5 : decode cX9_drawnAs 5 = .ok (.istore_n 2, 1) := by decide +kernel
theorem dX9_drawnAs_6 : decode cX9_drawnAs 6 = .ok (.iload_n 0, 1) := by decide +kernel
theorem dX9_drawnAs_7 : decode cX9_drawnAs 7 = .ok (.tableswitch 45 1 5 #[33, 37, 45, 39, 41], 33) := by decide +kernel
theorem dX9_drawnAs_40 : decode cX9_drawnAs 40 = .ok (.iconst 2, 1) := by decide +kernel
theorem dX9_drawnAs_41 : decode cX9_drawnAs 41 = .ok (.iload_n 1, 1) := by decide +kernel
theorem dX9_drawnAs_42 : decode cX9_drawnAs 42 = .ok (.imul, 1) := by decide +kernel
theorem dX9_drawnAs_43 : decode cX9_drawnAs 43 = .ok (.ireturn, 1) := by decide +kernel
theorem dX9_drawnAs_44 : decode cX9_drawnAs 44 = .ok (.iconst 0, 1) := by decide +kernel
theorem dX9_drawnAs_45 : decode cX9_drawnAs 45 = .ok (.ireturn, 1) := by decide +kernel
theorem dX9_drawnAs_46 : decode cX9_drawnAs 46 = .ok (.iload_n 2, 1) := by decide +kernel
theorem dX9_drawnAs_47 : decode cX9_drawnAs 47 = .ok (.ireturn, 1) := by decide +kernel
theorem dX9_drawnAs_48 : decode cX9_drawnAs 48 = .ok (.iload_n 2, 1) := by decide +kernel
theorem dX9_drawnAs_49 : decode cX9_drawnAs 49 = .ok (.iconst 2, 1) := by decide +kernel
theorem dX9_drawnAs_50 : decode cX9_drawnAs 50 = .ok (.idiv, 1) := by decide +kernel
theorem dX9_drawnAs_51 : decode cX9_drawnAs 51 = .ok (.ireturn, 1) := by decide +kernel
theorem dX9_drawnAs_52 : decode cX9_drawnAs 52 = .ok (.iload_n 1, 1) := by decide +kernel
theorem dX9_drawnAs_53 : decode cX9_drawnAs 53 = .ok (.ireturn, 1) := by decide +kernel
theorem dX9_seesAs_0 : decode cX9_seesAs 0 = .ok (.iload_n 0, 1) := by decide +kernel
theorem dX9_seesAs_1 : decode cX9_seesAs 1 = .ok (.iload_n 1, 1) := by decide +kernel
theorem dX9_seesAs_2 : decode cX9_seesAs 2 = .ok (.invokestatic 101, 3) := by decide +kernel
theorem dX9_seesAs_5 : decode cX9_seesAs 5 = .ok (.iload_n 0, 1) := by decide +kernel
theorem dX9_seesAs_6 : decode cX9_seesAs 6 = .ok (.iload_n 2, 1) := by decide +kernel
theorem dX9_seesAs_7 : decode cX9_seesAs 7 = .ok (.invokestatic 104, 3) := by decide +kernel
theorem dX9_seesAs_10 : decode cX9_seesAs 10 = .ok (.if_icmp .le 7, 3) := by decide +kernel
theorem dX9_seesAs_13 : decode cX9_seesAs 13 = .ok (.iconst 1, 1) := by decide +kernel
theorem dX9_seesAs_14 : decode cX9_seesAs 14 = .ok (.goto 4, 3) := by decide +kernel
theorem dX9_seesAs_17 : decode cX9_seesAs 17 = .ok (.iconst 0, 1) := by decide +kernel
theorem dX9_seesAs_18 : decode cX9_seesAs 18 = .ok (.ireturn, 1) := by decide +kernel
theorem dX9_distance_0 : decode cX9_distance 0 = .ok (.iload_n 0, 1) := by decide +kernel
theorem dX9_distance_1 : decode cX9_distance 1 = .ok (.bipush 6, 2) := by decide +kernel
theorem dX9_distance_3 : decode cX9_distance 3 = .ok (.idiv, 1) := by decide +kernel
theorem dX9_distance_4 : decode cX9_distance 4 = .ok (.iload_n 1, 1) := by decide +kernel
theorem dX9_distance_5 : decode cX9_distance 5 = .ok (.bipush 6, 2) := by decide +kernel
theorem dX9_distance_7 : decode cX9_distance 7 = .ok (.idiv, 1) := by decide +kernel
theorem dX9_distance_8 : decode cX9_distance 8 = .ok (.isub, 1) := by decide +kernel
theorem dX9_distance_9 : decode cX9_distance 9 = .ok (.istore_n 2, 1) := by decide +kernel
theorem dX9_distance_10 : decode cX9_distance 10 = .ok (.iload_n 0, 1) := by decide +kernel
theorem dX9_distance_11 : decode cX9_distance 11 = .ok (.bipush 6, 2) := by decide +kernel
theorem dX9_distance_13 : decode cX9_distance 13 = .ok (.irem, 1) := by decide +kernel
theorem dX9_distance_14 : decode cX9_distance 14 = .ok (.iload_n 1, 1) := by decide +kernel
theorem dX9_distance_15 : decode cX9_distance 15 = .ok (.bipush 6, 2) := by decide +kernel
theorem dX9_distance_17 : decode cX9_distance 17 = .ok (.irem, 1) := by decide +kernel
theorem dX9_distance_18 : decode cX9_distance 18 = .ok (.isub, 1) := by decide +kernel
theorem dX9_distance_19 : decode cX9_distance 19 = .ok (.istore_n 3, 1) := by decide +kernel
theorem dX9_distance_20 : decode cX9_distance 20 = .ok (.iload_n 2, 1) := by decide +kernel
theorem dX9_distance_21 : decode cX9_distance 21 = .ok (.ifCond .ge 8, 3) := by decide +kernel
theorem dX9_distance_24 : decode cX9_distance 24 = .ok (.iload_n 2, 1) := by decide +kernel
theorem dX9_distance_25 : decode cX9_distance 25 = .ok (.ineg, 1) := by decide +kernel
theorem dX9_distance_26 : decode cX9_distance 26 = .ok (.goto 4, 3) := by decide +kernel
theorem dX9_distance_29 : decode cX9_distance 29 = .ok (.iload_n 2, 1) := by decide +kernel
theorem dX9_distance_30 : decode cX9_distance 30 = .ok (.iload_n 3, 1) := by decide +kernel
theorem dX9_distance_31 : decode cX9_distance 31 = .ok (.ifCond .ge 8, 3) := by decide +kernel
theorem dX9_distance_34 : decode cX9_distance 34 = .ok (.iload_n 3, 1) := by decide +kernel
theorem dX9_distance_35 : decode cX9_distance 35 = .ok (.ineg, 1) := by decide +kernel
theorem dX9_distance_36 : decode cX9_distance 36 = .ok (.goto 4, 3) := by decide +kernel
theorem dX9_distance_39 : decode cX9_distance 39 = .ok (.iload_n 3, 1) := by decide +kernel
theorem dX9_distance_40 : decode cX9_distance 40 = .ok (.iadd, 1) := by decide +kernel
theorem dX9_distance_41 : decode cX9_distance 41 = .ok (.ireturn, 1) := by decide +kernel
theorem dX9_pullAt_0 : decode cX9_pullAt 0 = .ok (.aload_n 0, 1) := by decide +kernel
theorem dX9_pullAt_1 : decode cX9_pullAt 1 = .ok (.bipush 30, 2) := by decide +kernel
theorem dX9_pullAt_3 : decode cX9_pullAt 3 = .ok (.iload_n 1, 1) := by decide +kernel
theorem dX9_pullAt_4 : decode cX9_pullAt 4 = .ok (.iadd, 1) := by decide +kernel
theorem dX9_pullAt_5 : decode cX9_pullAt 5 = .ok (.iaload, 1) := by decide +kernel
theorem dX9_pullAt_6 : decode cX9_pullAt 6 = .ok (.aload_n 0, 1) := by decide +kernel
theorem dX9_pullAt_7 : decode cX9_pullAt 7 = .ok (.bipush 14, 2) := by decide +kernel
theorem dX9_pullAt_9 : decode cX9_pullAt 9 = .ok (.iload_n 1, 1) := by decide +kernel
theorem dX9_pullAt_10 : decode cX9_pullAt 10 = .ok (.iadd, 1) := by decide +kernel
theorem dX9_pullAt_11 : decode cX9_pullAt 11 = .ok (.iaload, 1) := by decide +kernel
theorem dX9_pullAt_12 : decode cX9_pullAt 12 = .ok (.iload_n 2, 1) := by decide +kernel
theorem dX9_pullAt_13 : decode cX9_pullAt 13 = .ok (.invokestatic 107, 3) := by decide +kernel
theorem dX9_pullAt_16 : decode cX9_pullAt 16 = .ok (.iload_n 3, 1) := by decide +kernel
theorem dX9_pullAt_17 : decode cX9_pullAt 17 = .ok (.aload_n 0, 1) := by decide +kernel
theorem dX9_pullAt_18 : decode cX9_pullAt 18 = .ok (.bipush 35, 2) := by decide +kernel
theorem dX9_pullAt_20 : decode cX9_pullAt 20 = .ok (.iload_n 1, 1) := by decide +kernel
theorem dX9_pullAt_21 : decode cX9_pullAt 21 = .ok (.iadd, 1) := by decide +kernel
theorem dX9_pullAt_22 : decode cX9_pullAt 22 = .ok (.iaload, 1) := by decide +kernel
theorem dX9_pullAt_23 : decode cX9_pullAt 23 = .ok (.invokestatic 110, 3) := by decide +kernel
theorem dX9_pullAt_26 : decode cX9_pullAt 26 = .ok (.ireturn, 1) := by decide +kernel
theorem dX9_greatest_0 : decode cX9_greatest 0 = .ok (.iconst 0, 1) := by decide +kernel
theorem dX9_greatest_1 : decode cX9_greatest 1 = .ok (.istore 4, 2) := by decide +kernel
theorem dX9_greatest_3 : decode cX9_greatest 3 = .ok (.iconst 0, 1) := by decide +kernel
theorem dX9_greatest_4 : decode cX9_greatest 4 = .ok (.istore 5, 2) := by decide +kernel
theorem dX9_greatest_6 : decode cX9_greatest 6 = .ok (.iload 5, 2) := by decide +kernel
theorem dX9_greatest_8 : decode cX9_greatest 8 = .ok (.aload_n 0, 1) := by decide +kernel
theorem dX9_greatest_9 : decode cX9_greatest 9 = .ok (.iconst 0, 1) := by decide +kernel
theorem dX9_greatest_10 : decode cX9_greatest 10 = .ok (.iaload, 1) := by decide +kernel
theorem dX9_greatest_11 : decode cX9_greatest 11 = .ok (.if_icmp .ge 48, 3) := by decide +kernel
theorem dX9_greatest_14 : decode cX9_greatest 14 = .ok (.iload_n 1, 1) := by decide +kernel
theorem dX9_greatest_15 : decode cX9_greatest 15 = .ok (.iload 5, 2) := by decide +kernel
theorem dX9_greatest_17 : decode cX9_greatest 17 = .ok (.invokestatic 114, 3) := by decide +kernel
theorem dX9_greatest_20 : decode cX9_greatest 20 = .ok (.ifCond .eq 14, 3) := by decide +kernel
theorem dX9_greatest_23 : decode cX9_greatest 23 = .ok (.aload_n 0, 1) := by decide +kernel
theorem dX9_greatest_24 : decode cX9_greatest 24 = .ok (.iload 5, 2) := by decide +kernel
theorem dX9_greatest_26 : decode cX9_greatest 26 = .ok (.iload_n 2, 1) := by decide +kernel
theorem dX9_greatest_27 : decode cX9_greatest 27 = .ok (.iload_n 3, 1) := by decide +kernel
theorem dX9_greatest_28 : decode cX9_greatest 28 = .ok (.invokestatic 118, 3) := by decide +kernel
theorem dX9_greatest_31 : decode cX9_greatest 31 = .ok (.goto 4, 3) := by decide +kernel
theorem dX9_greatest_34 : decode cX9_greatest 34 = .ok (.iconst 0, 1) := by decide +kernel
theorem dX9_greatest_35 : decode cX9_greatest 35 = .ok (.istore 6, 2) := by decide +kernel
theorem dX9_greatest_37 : decode cX9_greatest 37 = .ok (.iload 6, 2) := by decide +kernel
theorem dX9_greatest_39 : decode cX9_greatest 39 = .ok (.iload 4, 2) := by decide +kernel
theorem dX9_greatest_41 : decode cX9_greatest 41 = .ok (.if_icmp .le 8, 3) := by decide +kernel
theorem dX9_greatest_44 : decode cX9_greatest 44 = .ok (.iload 6, 2) := by decide +kernel
theorem dX9_greatest_46 : decode cX9_greatest 46 = .ok (.goto 5, 3) := by decide +kernel
theorem dX9_greatest_49 : decode cX9_greatest 49 = .ok (.iload 4, 2) := by decide +kernel
theorem dX9_greatest_51 : decode cX9_greatest 51 = .ok (.istore 4, 2) := by decide +kernel
theorem dX9_greatest_53 : decode cX9_greatest 53 = .ok (.iinc 5 1, 3) := by decide +kernel
theorem dX9_greatest_56 : decode cX9_greatest 56 = .ok (.goto (-50), 3) := by decide +kernel
theorem dX9_greatest_59 : decode cX9_greatest 59 = .ok (.iload 4, 2) := by decide +kernel
theorem dX9_greatest_61 : decode cX9_greatest 61 = .ok (.ireturn, 1) := by decide +kernel
theorem dX9_isOn_0 : decode cX9_isOn 0 = .ok (.iconst 0, 1) := by decide +kernel
theorem dX9_isOn_1 : decode cX9_isOn 1 = .ok (.istore_n 1, 1) := by decide +kernel
theorem dX9_isOn_2 : decode cX9_isOn 2 = .ok (.iconst 0, 1) := by decide +kernel
theorem dX9_isOn_3 : decode cX9_isOn 3 = .ok (.istore_n 2, 1) := by decide +kernel
theorem dX9_isOn_4 : decode cX9_isOn 4 = .ok (.iload_n 2, 1) := by decide +kernel
theorem dX9_isOn_5 : decode cX9_isOn 5 = .ok (.aload_n 0, 1) := by decide +kernel
theorem dX9_isOn_6 : decode cX9_isOn 6 = .ok (.iconst 0, 1) := by decide +kernel
theorem dX9_isOn_7 : decode cX9_isOn 7 = .ok (.iaload, 1) := by decide +kernel
theorem dX9_isOn_8 : decode cX9_isOn 8 = .ok (.if_icmp .ge 20, 3) := by decide +kernel
theorem dX9_isOn_11 : decode cX9_isOn 11 = .ok (.iload_n 1, 1) := by decide +kernel
theorem dX9_isOn_12 : decode cX9_isOn 12 = .ok (.aload_n 0, 1) := by decide +kernel
theorem dX9_isOn_13 : decode cX9_isOn 13 = .ok (.bipush 25, 2) := by decide +kernel
theorem dX9_isOn_15 : decode cX9_isOn 15 = .ok (.iload_n 2, 1) := by decide +kernel
theorem dX9_isOn_16 : decode cX9_isOn 16 = .ok (.iadd, 1) := by decide +kernel
theorem dX9_isOn_17 : decode cX9_isOn 17 = .ok (.iaload, 1) := by decide +kernel
theorem dX9_isOn_18 : decode cX9_isOn 18 = .ok (.iload_n 2, 1) := by decide +kernel
theorem dX9_isOn_19 : decode cX9_isOn 19 = .ok (.ishl, 1) := by decide +kernel
theorem dX9_isOn_20 : decode cX9_isOn 20 = .ok (.ior, 1) := by decide +kernel
theorem dX9_isOn_21 : decode cX9_isOn 21 = .ok (.istore_n 1, 1) := by decide +kernel
theorem dX9_isOn_22 : decode cX9_isOn 22 = .ok (.iinc 2 1, 3) := by decide +kernel
theorem dX9_isOn_25 : decode cX9_isOn 25 = .ok (.goto (-21), 3) := by decide +kernel
theorem dX9_isOn_28 : decode cX9_isOn 28 = .ok (.iload_n 1, 1) := by decide +kernel
theorem dX9_isOn_29 : decode cX9_isOn 29 = .ok (.ireturn, 1) := by decide +kernel
theorem dX9_seesFrom_0 : decode cX9_seesFrom 0 = .ok (.iload_n 1, 1) := by decide +kernel
theorem dX9_seesFrom_1 : decode cX9_seesFrom 1 = .ok (.iload_n 2, 1) := by decide +kernel
theorem dX9_seesFrom_2 : decode cX9_seesFrom 2 = .ok (.iload_n 3, 1) := by decide +kernel
theorem dX9_seesFrom_3 : decode cX9_seesFrom 3 = .ok (.invokestatic 107, 3) := by decide +kernel
theorem dX9_seesFrom_6 : decode cX9_seesFrom 6 = .ok (.aload_n 0, 1) := by decide +kernel
theorem dX9_seesFrom_7 : decode cX9_seesFrom 7 = .ok (.iload 4, 2) := by decide +kernel
theorem dX9_seesFrom_9 : decode cX9_seesFrom 9 = .ok (.iload_n 2, 1) := by decide +kernel
theorem dX9_seesFrom_10 : decode cX9_seesFrom 10 = .ok (.iload 5, 2) := by decide +kernel
theorem dX9_seesFrom_12 : decode cX9_seesFrom 12 = .ok (.invokestatic 122, 3) := by decide +kernel
theorem dX9_seesFrom_15 : decode cX9_seesFrom 15 = .ok (.invokestatic 125, 3) := by decide +kernel
theorem dX9_seesFrom_18 : decode cX9_seesFrom 18 = .ok (.ireturn, 1) := by decide +kernel
theorem dX9_whoSees_0 : decode cX9_whoSees 0 = .ok (.iconst 0, 1) := by decide +kernel
theorem dX9_whoSees_1 : decode cX9_whoSees 1 = .ok (.istore 4, 2) := by decide +kernel
theorem dX9_whoSees_3 : decode cX9_whoSees 3 = .ok (.iconst 0, 1) := by decide +kernel
theorem dX9_whoSees_4 : decode cX9_whoSees 4 = .ok (.istore 5, 2) := by decide +kernel
theorem dX9_whoSees_6 : decode cX9_whoSees 6 = .ok (.iload 5, 2) := by decide +kernel
theorem dX9_whoSees_8 : decode cX9_whoSees 8 = .ok (.aload_n 0, 1) := by decide +kernel
theorem dX9_whoSees_9 : decode cX9_whoSees 9 = .ok (.iconst 1, 1) := by decide +kernel
theorem dX9_whoSees_10 : decode cX9_whoSees 10 = .ok (.iaload, 1) := by decide +kernel
theorem dX9_whoSees_11 : decode cX9_whoSees 11 = .ok (.if_icmp .ge 46, 3) := by decide +kernel
theorem dX9_whoSees_14 : decode cX9_whoSees 14 = .ok (.iload 4, 2) := by decide +kernel
theorem dX9_whoSees_16 : decode cX9_whoSees 16 = .ok (.aload_n 0, 1) := by decide +kernel
theorem dX9_whoSees_17 : decode cX9_whoSees 17 = .ok (.aload_n 0, 1) := by decide +kernel
theorem dX9_whoSees_18 : decode cX9_whoSees 18 = .ok (.bipush 40, 2) := by decide +kernel
theorem dX9_whoSees_20 : decode cX9_whoSees 20 = .ok (.iload 5, 2) := by decide +kernel
theorem dX9_whoSees_22 : decode cX9_whoSees 22 = .ok (.iadd, 1) := by decide +kernel
theorem dX9_whoSees_23 : decode cX9_whoSees 23 = .ok (.iaload, 1) := by decide +kernel
theorem dX9_whoSees_24 : decode cX9_whoSees 24 = .ok (.aload_n 0, 1) := by decide +kernel
theorem dX9_whoSees_25 : decode cX9_whoSees 25 = .ok (.bipush 19, 2) := by decide +kernel
theorem dX9_whoSees_27 : decode cX9_whoSees 27 = .ok (.iload 5, 2) := by decide +kernel
theorem dX9_whoSees_29 : decode cX9_whoSees 29 = .ok (.iadd, 1) := by decide +kernel
theorem dX9_whoSees_30 : decode cX9_whoSees 30 = .ok (.iaload, 1) := by decide +kernel
theorem dX9_whoSees_31 : decode cX9_whoSees 31 = .ok (.iload_n 1, 1) := by decide +kernel
theorem dX9_whoSees_32 : decode cX9_whoSees 32 = .ok (.iload_n 2, 1) := by decide +kernel
theorem dX9_whoSees_33 : decode cX9_whoSees 33 = .ok (.iload_n 3, 1) := by decide +kernel
theorem dX9_whoSees_34 : decode cX9_whoSees 34 = .ok (.invokestatic 129, 3) := by decide +kernel
theorem dX9_whoSees_37 : decode cX9_whoSees 37 = .ok (.ifCond .eq 10, 3) := by decide +kernel
theorem dX9_whoSees_40 : decode cX9_whoSees 40 = .ok (.iconst 1, 1) := by decide +kernel
theorem dX9_whoSees_41 : decode cX9_whoSees 41 = .ok (.iload 5, 2) := by decide +kernel
theorem dX9_whoSees_43 : decode cX9_whoSees 43 = .ok (.ishl, 1) := by decide +kernel
theorem dX9_whoSees_44 : decode cX9_whoSees 44 = .ok (.goto 4, 3) := by decide +kernel
theorem dX9_whoSees_47 : decode cX9_whoSees 47 = .ok (.iconst 0, 1) := by decide +kernel
theorem dX9_whoSees_48 : decode cX9_whoSees 48 = .ok (.ior, 1) := by decide +kernel
theorem dX9_whoSees_49 : decode cX9_whoSees 49 = .ok (.istore 4, 2) := by decide +kernel
theorem dX9_whoSees_51 : decode cX9_whoSees 51 = .ok (.iinc 5 1, 3) := by decide +kernel
theorem dX9_whoSees_54 : decode cX9_whoSees 54 = .ok (.goto (-48), 3) := by decide +kernel
theorem dX9_whoSees_57 : decode cX9_whoSees 57 = .ok (.iload 4, 2) := by decide +kernel
theorem dX9_whoSees_59 : decode cX9_whoSees 59 = .ok (.ireturn, 1) := by decide +kernel
theorem dX9_stepNow_0 : decode cX9_stepNow 0 = .ok (.aload_n 0, 1) := by decide +kernel
theorem dX9_stepNow_1 : decode cX9_stepNow 1 = .ok (.getfield 7, 3) := by decide +kernel
theorem dX9_stepNow_4 : decode cX9_stepNow 4 = .ok (.bipush 13, 2) := by decide +kernel
theorem dX9_stepNow_6 : decode cX9_stepNow 6 = .ok (.iaload, 1) := by decide +kernel
theorem dX9_stepNow_7 : decode cX9_stepNow 7 = .ok (.bipush 12, 2) := by decide +kernel
theorem dX9_stepNow_9 : decode cX9_stepNow 9 = .ok (.irem, 1) := by decide +kernel
theorem dX9_stepNow_10 : decode cX9_stepNow 10 = .ok (.ireturn, 1) := by decide +kernel
theorem dX9_keep_0 : decode cX9_keep 0 = .ok (.aload_n 0, 1) := by decide +kernel
theorem dX9_keep_1 : decode cX9_keep 1 = .ok (.getfield 7, 3) := by decide +kernel
theorem dX9_keep_4 : decode cX9_keep 4 = .ok (.iconst 5, 1) := by decide +kernel
theorem dX9_keep_5 : decode cX9_keep 5 = .ok (.iaload, 1) := by decide +kernel
theorem dX9_keep_6 : decode cX9_keep 6 = .ok (.bipush 8, 2) := by decide +kernel
theorem dX9_keep_8 : decode cX9_keep 8 = .ok (.if_icmp .ne 45, 3) := by decide +kernel
theorem dX9_keep_11 : decode cX9_keep 11 = .ok (.iconst 0, 1) := by decide +kernel
theorem dX9_keep_12 : decode cX9_keep 12 = .ok (.istore_n 1, 1) := by decide +kernel
theorem dX9_keep_13 : decode cX9_keep 13 = .ok (.iload_n 1, 1) := by decide +kernel
theorem dX9_keep_14 : decode cX9_keep 14 = .ok (.sipush 168, 3) := by decide +kernel
theorem dX9_keep_17 : decode cX9_keep 17 = .ok (.if_icmp .ge 28, 3) := by decide +kernel
theorem dX9_keep_20 : decode cX9_keep 20 = .ok (.aload_n 0, 1) := by decide +kernel
theorem dX9_keep_21 : decode cX9_keep 21 = .ok (.getfield 7, 3) := by decide +kernel
theorem dX9_keep_24 : decode cX9_keep 24 = .ok (.bipush 112, 2) := by decide +kernel
theorem dX9_keep_26 : decode cX9_keep 26 = .ok (.iload_n 1, 1) := by decide +kernel
theorem dX9_keep_27 : decode cX9_keep 27 = .ok (.iadd, 1) := by decide +kernel
theorem dX9_keep_28 : decode cX9_keep 28 = .ok (.aload_n 0, 1) := by decide +kernel
theorem dX9_keep_29 : decode cX9_keep 29 = .ok (.getfield 7, 3) := by decide +kernel
theorem dX9_keep_32 : decode cX9_keep 32 = .ok (.sipush 136, 3) := by decide +kernel
theorem dX9_keep_35 : decode cX9_keep 35 = .ok (.iload_n 1, 1) := by decide +kernel
theorem dX9_keep_36 : decode cX9_keep 36 = .ok (.iadd, 1) := by decide +kernel
theorem dX9_keep_37 : decode cX9_keep 37 = .ok (.iaload, 1) := by decide +kernel
theorem dX9_keep_38 : decode cX9_keep 38 = .ok (.iastore, 1) := by decide +kernel
theorem dX9_keep_39 : decode cX9_keep 39 = .ok (.iinc 1 1, 3) := by decide +kernel
theorem dX9_keep_42 : decode cX9_keep 42 = .ok (.goto (-29), 3) := by decide +kernel
theorem dX9_keep_45 : decode cX9_keep 45 = .ok (.aload_n 0, 1) := by decide +kernel
theorem dX9_keep_46 : decode cX9_keep 46 = .ok (.getfield 7, 3) := by decide +kernel
theorem dX9_keep_49 : decode cX9_keep 49 = .ok (.iconst 5, 1) := by decide +kernel
theorem dX9_keep_50 : decode cX9_keep 50 = .ok (.bipush 7, 2) := by decide +kernel
theorem dX9_keep_52 : decode cX9_keep 52 = .ok (.iastore, 1) := by decide +kernel
theorem dX9_keep_53 : decode cX9_keep 53 = .ok (.iconst 0, 1) := by decide +kernel
theorem dX9_keep_54 : decode cX9_keep 54 = .ok (.istore_n 1, 1) := by decide +kernel
theorem dX9_keep_55 : decode cX9_keep 55 = .ok (.iload_n 1, 1) := by decide +kernel
theorem dX9_keep_56 : decode cX9_keep 56 = .ok (.bipush 24, 2) := by decide +kernel
theorem dX9_keep_58 : decode cX9_keep 58 = .ok (.if_icmp .ge 37, 3) := by decide +kernel
theorem dX9_keep_61 : decode cX9_keep 61 = .ok (.aload_n 0, 1) := by decide +kernel
theorem dX9_keep_62 : decode cX9_keep 62 = .ok (.getfield 7, 3) := by decide +kernel
theorem dX9_keep_65 : decode cX9_keep 65 = .ok (.bipush 112, 2) := by decide +kernel
theorem dX9_keep_67 : decode cX9_keep 67 = .ok (.bipush 24, 2) := by decide +kernel
theorem dX9_keep_69 : decode cX9_keep 69 = .ok (.aload_n 0, 1) := by decide +kernel
theorem dX9_keep_70 : decode cX9_keep 70 = .ok (.getfield 7, 3) := by decide +kernel
theorem dX9_keep_73 : decode cX9_keep 73 = .ok (.iconst 5, 1) := by decide +kernel
theorem dX9_keep_74 : decode cX9_keep 74 = .ok (.iaload, 1) := by decide +kernel
theorem dX9_keep_75 : decode cX9_keep 75 = .ok (.imul, 1) := by decide +kernel
theorem dX9_keep_76 : decode cX9_keep 76 = .ok (.iadd, 1) := by decide +kernel
theorem dX9_keep_77 : decode cX9_keep 77 = .ok (.iload_n 1, 1) := by decide +kernel
theorem dX9_keep_78 : decode cX9_keep 78 = .ok (.iadd, 1) := by decide +kernel
theorem dX9_keep_79 : decode cX9_keep 79 = .ok (.aload_n 0, 1) := by decide +kernel
theorem dX9_keep_80 : decode cX9_keep 80 = .ok (.getfield 7, 3) := by decide +kernel
theorem dX9_keep_83 : decode cX9_keep 83 = .ok (.bipush 6, 2) := by decide +kernel
theorem dX9_keep_85 : decode cX9_keep 85 = .ok (.iload_n 1, 1) := by decide +kernel
theorem dX9_keep_86 : decode cX9_keep 86 = .ok (.iadd, 1) := by decide +kernel
theorem dX9_keep_87 : decode cX9_keep 87 = .ok (.iaload, 1) := by decide +kernel
theorem dX9_keep_88 : decode cX9_keep 88 = .ok (.iastore, 1) := by decide +kernel
theorem dX9_keep_89 : decode cX9_keep 89 = .ok (.iinc 1 1, 3) := by decide +kernel
theorem dX9_keep_92 : decode cX9_keep 92 = .ok (.goto (-37), 3) := by decide +kernel
theorem dX9_keep_95 : decode cX9_keep 95 = .ok (.aload_n 0, 1) := by decide +kernel
theorem dX9_keep_96 : decode cX9_keep 96 = .ok (.getfield 7, 3) := by decide +kernel
theorem dX9_keep_99 : decode cX9_keep 99 = .ok (.iconst 5, 1) := by decide +kernel
theorem dX9_keep_100 : decode cX9_keep 100 = .ok (.dup2, 1) := by decide +kernel
theorem dX9_keep_101 : decode cX9_keep 101 = .ok (.iaload, 1) := by decide +kernel
theorem dX9_keep_102 : decode cX9_keep 102 = .ok (.iconst 1, 1) := by decide +kernel
theorem dX9_keep_103 : decode cX9_keep 103 = .ok (.iadd, 1) := by decide +kernel
theorem dX9_keep_104 : decode cX9_keep 104 = .ok (.iastore, 1) := by decide +kernel
theorem dX9_keep_105 : decode cX9_keep 105 = .ok (.return_, 1) := by decide +kernel
theorem dX9_goDoing_0 : decode cX9_goDoing 0 = .ok (.aload_n 0, 1) := by decide +kernel
theorem dX9_goDoing_1 : decode cX9_goDoing 1 = .ok (.iload_n 1, 1) := by decide +kernel
theorem dX9_goDoing_2 : decode cX9_goDoing 2 = .ok (.aload_n 0, 1) := by decide +kernel
theorem dX9_goDoing_3 : decode cX9_goDoing 3 = .ok (.invokestatic 133, 3) := by decide +kernel
theorem dX9_goDoing_6 : decode cX9_goDoing 6 = .ok (.aload_n 0, 1) := by decide +kernel
theorem dX9_goDoing_7 : decode cX9_goDoing 7 = .ok (.bipush 13, 2) := by decide +kernel
theorem dX9_goDoing_9 : decode cX9_goDoing 9 = .ok (.iaload, 1) := by decide +kernel
theorem dX9_goDoing_10 : decode cX9_goDoing 10 = .ok (.bipush 12, 2) := by decide +kernel
theorem dX9_goDoing_12 : decode cX9_goDoing 12 = .ok (.irem, 1) := by decide +kernel
theorem dX9_goDoing_13 : decode cX9_goDoing 13 = .ok (.invokestatic 137, 3) := by decide +kernel
theorem dX9_goDoing_16 : decode cX9_goDoing 16 = .ok (.istore_n 2, 1) := by decide +kernel
theorem dX9_goDoing_17 : decode cX9_goDoing 17 = .ok (.iconst 0, 1) := by decide +kernel
theorem dX9_goDoing_18 : decode cX9_goDoing 18 = .ok (.istore_n 3, 1) := by decide +kernel
theorem dX9_goDoing_19 : decode cX9_goDoing 19 = .ok (.iload_n 3, 1) := by decide +kernel
theorem dX9_goDoing_20 : decode cX9_goDoing 20 = .ok (.aload_n 0, 1) := by decide +kernel
theorem dX9_goDoing_21 : decode cX9_goDoing 21 = .ok (.iconst 1, 1) := by decide +kernel
theorem dX9_goDoing_22 : decode cX9_goDoing 22 = .ok (.iaload, 1) := by decide +kernel
theorem dX9_goDoing_23 : decode cX9_goDoing 23 = .ok (.if_icmp .ge 23, 3) := by decide +kernel
theorem dX9_goDoing_26 : decode cX9_goDoing 26 = .ok (.aload_n 0, 1) := by decide +kernel
theorem dX9_goDoing_27 : decode cX9_goDoing 27 = .ok (.bipush 6, 2) := by decide +kernel
theorem dX9_goDoing_29 : decode cX9_goDoing 29 = .ok (.iload_n 3, 1) := by decide +kernel
theorem dX9_goDoing_30 : decode cX9_goDoing 30 = .ok (.iadd, 1) := by decide +kernel
theorem dX9_goDoing_31 : decode cX9_goDoing 31 = .ok (.dup2, 1) := by decide +kernel
theorem dX9_goDoing_32 : decode cX9_goDoing 32 = .ok (.iaload, 1) := by decide +kernel
theorem dX9_goDoing_33 : decode cX9_goDoing 33 = .ok (.iload_n 2, 1) := by decide +kernel
theorem dX9_goDoing_34 : decode cX9_goDoing 34 = .ok (.iload_n 3, 1) := by decide +kernel
theorem dX9_goDoing_35 : decode cX9_goDoing 35 = .ok (.ishr, 1) := by decide +kernel
theorem dX9_goDoing_36 : decode cX9_goDoing 36 = .ok (.iconst 1, 1) := by decide +kernel
theorem dX9_goDoing_37 : decode cX9_goDoing 37 = .ok (.iand, 1) := by decide +kernel
theorem dX9_goDoing_38 : decode cX9_goDoing 38 = .ok (.iadd, 1) := by decide +kernel
theorem dX9_goDoing_39 : decode cX9_goDoing 39 = .ok (.iastore, 1) := by decide +kernel
theorem dX9_goDoing_40 : decode cX9_goDoing 40 = .ok (.iinc 3 1, 3) := by decide +kernel
theorem dX9_goDoing_43 : decode cX9_goDoing 43 = .ok (.goto (-24), 3) := by decide +kernel
theorem dX9_goDoing_46 : decode cX9_goDoing 46 = .ok (.aload_n 0, 1) := by decide +kernel
theorem dX9_goDoing_47 : decode cX9_goDoing 47 = .ok (.bipush 12, 2) := by decide +kernel
theorem dX9_goDoing_49 : decode cX9_goDoing 49 = .ok (.dup2, 1) := by decide +kernel
theorem dX9_goDoing_50 : decode cX9_goDoing 50 = .ok (.iaload, 1) := by decide +kernel
theorem dX9_goDoing_51 : decode cX9_goDoing 51 = .ok (.iconst 1, 1) := by decide +kernel
theorem dX9_goDoing_52 : decode cX9_goDoing 52 = .ok (.iadd, 1) := by decide +kernel
theorem dX9_goDoing_53 : decode cX9_goDoing 53 = .ok (.iastore, 1) := by decide +kernel
theorem dX9_goDoing_54 : decode cX9_goDoing 54 = .ok (.aload_n 0, 1) := by decide +kernel
theorem dX9_goDoing_55 : decode cX9_goDoing 55 = .ok (.bipush 13, 2) := by decide +kernel
theorem dX9_goDoing_57 : decode cX9_goDoing 57 = .ok (.dup2, 1) := by decide +kernel
theorem dX9_goDoing_58 : decode cX9_goDoing 58 = .ok (.iaload, 1) := by decide +kernel
theorem dX9_goDoing_59 : decode cX9_goDoing 59 = .ok (.aload_n 0, 1) := by decide +kernel
theorem dX9_goDoing_60 : decode cX9_goDoing 60 = .ok (.bipush 13, 2) := by decide +kernel
theorem dX9_goDoing_62 : decode cX9_goDoing 62 = .ok (.iaload, 1) := by decide +kernel
theorem dX9_goDoing_63 : decode cX9_goDoing 63 = .ok (.sipush 9999, 3) := by decide +kernel
theorem dX9_goDoing_66 : decode cX9_goDoing 66 = .ok (.if_icmp .ge 7, 3) := by decide +kernel
theorem dX9_goDoing_69 : decode cX9_goDoing 69 = .ok (.iconst 1, 1) := by decide +kernel
theorem dX9_goDoing_70 : decode cX9_goDoing 70 = .ok (.goto 4, 3) := by decide +kernel
theorem dX9_goDoing_73 : decode cX9_goDoing 73 = .ok (.iconst 0, 1) := by decide +kernel
theorem dX9_goDoing_74 : decode cX9_goDoing 74 = .ok (.iadd, 1) := by decide +kernel
theorem dX9_goDoing_75 : decode cX9_goDoing 75 = .ok (.iastore, 1) := by decide +kernel
theorem dX9_goDoing_76 : decode cX9_goDoing 76 = .ok (.iload_n 2, 1) := by decide +kernel
theorem dX9_goDoing_77 : decode cX9_goDoing 77 = .ok (.ireturn, 1) := by decide +kernel
theorem dX9_does_0 : decode cX9_does 0 = .ok (.iload_n 1, 1) := by decide +kernel
theorem dX9_does_1 : decode cX9_does 1 = .ok (.invokestatic 74, 3) := by decide +kernel
theorem dX9_does_4 : decode cX9_does 4 = .ok (.ifCond .ne 10, 3) := by decide +kernel
theorem dX9_does_7 : decode cX9_does 7 = .ok (.aload_n 0, 1) := by decide +kernel
theorem dX9_does_8 : decode cX9_does 8 = .ok (.bipush (-2), 2) := by decide +kernel
theorem dX9_does_10 : decode cX9_does 10 = .ok (.invokevirtual 78, 3) := by decide +kernel
theorem dX9_does_13 : decode cX9_does 13 = .ok (.ireturn, 1) := by decide +kernel
theorem dX9_does_14 : decode cX9_does 14 = .ok (.aload_n 0, 1) := by decide +kernel
theorem dX9_does_15 : decode cX9_does 15 = .ok (.invokevirtual 140, 3) := by decide +kernel
theorem dX9_does_18 : decode cX9_does 18 = .ok (.aload_n 0, 1) := by decide +kernel
theorem dX9_does_19 : decode cX9_does 19 = .ok (.getfield 7, 3) := by decide +kernel
theorem dX9_does_22 : decode cX9_does 22 = .ok (.iload_n 1, 1) := by decide +kernel
theorem dX9_does_23 : decode cX9_does 23 = .ok (.invokestatic 143, 3) := by decide +kernel
theorem dX9_does_26 : decode cX9_does 26 = .ok (.ireturn, 1) := by decide +kernel
theorem dX9_goRest_0 : decode cX9_goRest 0 = .ok (.aload_n 0, 1) := by decide +kernel
theorem dX9_goRest_1 : decode cX9_goRest 1 = .ok (.bipush 13, 2) := by decide +kernel
theorem dX9_goRest_3 : decode cX9_goRest 3 = .ok (.aload_n 0, 1) := by decide +kernel
theorem dX9_goRest_4 : decode cX9_goRest 4 = .ok (.bipush 13, 2) := by decide +kernel
theorem dX9_goRest_6 : decode cX9_goRest 6 = .ok (.iaload, 1) := by decide +kernel
theorem dX9_goRest_7 : decode cX9_goRest 7 = .ok (.iload_n 1, 1) := by decide +kernel
theorem dX9_goRest_8 : decode cX9_goRest 8 = .ok (.iadd, 1) := by decide +kernel
theorem dX9_goRest_9 : decode cX9_goRest 9 = .ok (.sipush 9999, 3) := by decide +kernel
theorem dX9_goRest_12 : decode cX9_goRest 12 = .ok (.if_icmp .le 9, 3) := by decide +kernel
theorem dX9_goRest_15 : decode cX9_goRest 15 = .ok (.sipush 9999, 3) := by decide +kernel
theorem dX9_goRest_18 : decode cX9_goRest 18 = .ok (.goto 9, 3) := by decide +kernel
theorem dX9_goRest_21 : decode cX9_goRest 21 = .ok (.aload_n 0, 1) := by decide +kernel
theorem dX9_goRest_22 : decode cX9_goRest 22 = .ok (.bipush 13, 2) := by decide +kernel
theorem dX9_goRest_24 : decode cX9_goRest 24 = .ok (.iaload, 1) := by decide +kernel
theorem dX9_goRest_25 : decode cX9_goRest 25 = .ok (.iload_n 1, 1) := by decide +kernel
theorem dX9_goRest_26 : decode cX9_goRest 26 = .ok (.iadd, 1) := by decide +kernel
theorem dX9_goRest_27 : decode cX9_goRest 27 = .ok (.iastore, 1) := by decide +kernel
theorem dX9_goRest_28 : decode cX9_goRest 28 = .ok (.return_, 1) := by decide +kernel
theorem dX9_rest_0 : decode cX9_rest 0 = .ok (.iload_n 1, 1) := by decide +kernel
theorem dX9_rest_1 : decode cX9_rest 1 = .ok (.i2l, 1) := by decide +kernel
theorem dX9_rest_2 : decode cX9_rest 2 = .ok (.lconst 1, 1) := by decide +kernel
theorem dX9_rest_3 : decode cX9_rest 3 = .ok (.ldc2_w 147, 3) := by decide +kernel
theorem dX9_rest_6 : decode cX9_rest 6 = .ok (.invokestatic 59, 3) := by decide +kernel
theorem dX9_rest_9 : decode cX9_rest 9 = .ok (.ifCond .ne 10, 3) := by decide +kernel
theorem dX9_rest_12 : decode cX9_rest 12 = .ok (.aload_n 0, 1) := by decide +kernel
theorem dX9_rest_13 : decode cX9_rest 13 = .ok (.bipush (-2), 2) := by decide +kernel
theorem dX9_rest_15 : decode cX9_rest 15 = .ok (.invokevirtual 78, 3) := by decide +kernel
theorem dX9_rest_18 : decode cX9_rest 18 = .ok (.ireturn, 1) := by decide +kernel
theorem dX9_rest_19 : decode cX9_rest 19 = .ok (.aload_n 0, 1) := by decide +kernel
theorem dX9_rest_20 : decode cX9_rest 20 = .ok (.invokevirtual 140, 3) := by decide +kernel
theorem dX9_rest_23 : decode cX9_rest 23 = .ok (.aload_n 0, 1) := by decide +kernel
theorem dX9_rest_24 : decode cX9_rest 24 = .ok (.getfield 7, 3) := by decide +kernel
theorem dX9_rest_27 : decode cX9_rest 27 = .ok (.iload_n 1, 1) := by decide +kernel
theorem dX9_rest_28 : decode cX9_rest 28 = .ok (.invokestatic 149, 3) := by decide +kernel
theorem dX9_rest_31 : decode cX9_rest 31 = .ok (.aload_n 0, 1) := by decide +kernel
theorem dX9_rest_32 : decode cX9_rest 32 = .ok (.getfield 7, 3) := by decide +kernel
theorem dX9_rest_35 : decode cX9_rest 35 = .ok (.bipush 13, 2) := by decide +kernel
theorem dX9_rest_37 : decode cX9_rest 37 = .ok (.iaload, 1) := by decide +kernel
theorem dX9_rest_38 : decode cX9_rest 38 = .ok (.ireturn, 1) := by decide +kernel
theorem dX9_put_0 : decode cX9_put 0 = .ok (.aload_n 0, 1) := by decide +kernel
theorem dX9_put_1 : decode cX9_put 1 = .ok (.getfield 7, 3) := by decide +kernel
theorem dX9_put_4 : decode cX9_put 4 = .ok (.iload_n 1, 1) := by decide +kernel
theorem dX9_put_5 : decode cX9_put 5 = .ok (.iaload, 1) := by decide +kernel
theorem dX9_put_6 : decode cX9_put 6 = .ok (.istore_n 3, 1) := by decide +kernel
theorem dX9_put_7 : decode cX9_put 7 = .ok (.aload_n 0, 1) := by decide +kernel
theorem dX9_put_8 : decode cX9_put 8 = .ok (.invokevirtual 140, 3) := by decide +kernel
theorem dX9_put_11 : decode cX9_put 11 = .ok (.aload_n 0, 1) := by decide +kernel
theorem dX9_put_12 : decode cX9_put 12 = .ok (.getfield 7, 3) := by decide +kernel
theorem dX9_put_15 : decode cX9_put 15 = .ok (.iload_n 1, 1) := by decide +kernel
theorem dX9_put_16 : decode cX9_put 16 = .ok (.iload_n 2, 1) := by decide +kernel
theorem dX9_put_17 : decode cX9_put 17 = .ok (.iastore, 1) := by decide +kernel
theorem dX9_put_18 : decode cX9_put 18 = .ok (.iload_n 3, 1) := by decide +kernel
theorem dX9_put_19 : decode cX9_put 19 = .ok (.ireturn, 1) := by decide +kernel
theorem dX9_moves_0 : decode cX9_moves 0 = .ok (.aload_n 0, 1) := by decide +kernel
theorem dX9_moves_1 : decode cX9_moves 1 = .ok (.iload_n 1, 1) := by decide +kernel
theorem dX9_moves_2 : decode cX9_moves 2 = .ok (.invokevirtual 153, 3) := by decide +kernel
theorem dX9_moves_5 : decode cX9_moves 5 = .ok (.ifCond .eq 22, 3) := by decide +kernel
theorem dX9_moves_8 : decode cX9_moves 8 = .ok (.iload_n 2, 1) := by decide +kernel
theorem dX9_moves_9 : decode cX9_moves 9 = .ok (.invokestatic 74, 3) := by decide +kernel
theorem dX9_moves_12 : decode cX9_moves 12 = .ok (.ifCond .eq 15, 3) := by decide +kernel
theorem dX9_moves_15 : decode cX9_moves 15 = .ok (.aload_n 0, 1) := by decide +kernel
theorem dX9_moves_16 : decode cX9_moves 16 = .ok (.bipush 14, 2) := by decide +kernel
theorem dX9_moves_18 : decode cX9_moves 18 = .ok (.iload_n 1, 1) := by decide +kernel
theorem dX9_moves_19 : decode cX9_moves 19 = .ok (.iadd, 1) := by decide +kernel
theorem dX9_moves_20 : decode cX9_moves 20 = .ok (.iload_n 2, 1) := by decide +kernel
theorem dX9_moves_21 : decode cX9_moves 21 = .ok (.invokevirtual 156, 3) := by decide +kernel
theorem dX9_moves_24 : decode cX9_moves 24 = .ok (.goto 9, 3) := by decide +kernel
theorem dX9_moves_27 : decode cX9_moves 27 = .ok (.aload_n 0, 1) := by decide +kernel
theorem dX9_moves_28 : decode cX9_moves 28 = .ok (.bipush (-2), 2) := by decide +kernel
theorem dX9_moves_30 : decode cX9_moves 30 = .ok (.invokevirtual 78, 3) := by decide +kernel
theorem dX9_moves_33 : decode cX9_moves 33 = .ok (.ireturn, 1) := by decide +kernel
theorem dX9_turns_0 : decode cX9_turns 0 = .ok (.aload_n 0, 1) := by decide +kernel
theorem dX9_turns_1 : decode cX9_turns 1 = .ok (.iload_n 1, 1) := by decide +kernel
theorem dX9_turns_2 : decode cX9_turns 2 = .ok (.invokevirtual 153, 3) := by decide +kernel
theorem dX9_turns_5 : decode cX9_turns 5 = .ok (.ifCond .eq 25, 3) := by decide +kernel
theorem dX9_turns_8 : decode cX9_turns 8 = .ok (.iload_n 2, 1) := by decide +kernel
theorem dX9_turns_9 : decode cX9_turns 9 = .ok (.i2l, 1) := by decide +kernel
theorem dX9_turns_10 : decode cX9_turns 10 = .ok (.lconst 0, 1) := by decide +kernel
theorem dX9_turns_11 : decode cX9_turns 11 = .ok (.lconst 1, 1) := by decide +kernel
theorem dX9_turns_12 : decode cX9_turns 12 = .ok (.invokestatic 59, 3) := by decide +kernel
theorem dX9_turns_15 : decode cX9_turns 15 = .ok (.ifCond .eq 15, 3) := by decide +kernel
theorem dX9_turns_18 : decode cX9_turns 18 = .ok (.aload_n 0, 1) := by decide +kernel
theorem dX9_turns_19 : decode cX9_turns 19 = .ok (.bipush 25, 2) := by decide +kernel
theorem dX9_turns_21 : decode cX9_turns 21 = .ok (.iload_n 1, 1) := by decide +kernel
theorem dX9_turns_22 : decode cX9_turns 22 = .ok (.iadd, 1) := by decide +kernel
theorem dX9_turns_23 : decode cX9_turns 23 = .ok (.iload_n 2, 1) := by decide +kernel
theorem dX9_turns_24 : decode cX9_turns 24 = .ok (.invokevirtual 156, 3) := by decide +kernel
theorem dX9_turns_27 : decode cX9_turns 27 = .ok (.goto 9, 3) := by decide +kernel
theorem dX9_turns_30 : decode cX9_turns 30 = .ok (.aload_n 0, 1) := by decide +kernel
theorem dX9_turns_31 : decode cX9_turns 31 = .ok (.bipush (-2), 2) := by decide +kernel
theorem dX9_turns_33 : decode cX9_turns 33 = .ok (.invokevirtual 78, 3) := by decide +kernel
theorem dX9_turns_36 : decode cX9_turns 36 = .ok (.ireturn, 1) := by decide +kernel
theorem dX9_sends_0 : decode cX9_sends 0 = .ok (.aload_n 0, 1) := by decide +kernel
theorem dX9_sends_1 : decode cX9_sends 1 = .ok (.iload_n 1, 1) := by decide +kernel
theorem dX9_sends_2 : decode cX9_sends 2 = .ok (.invokevirtual 159, 3) := by decide +kernel
theorem dX9_sends_5 : decode cX9_sends 5 = .ok (.ifCond .eq 22, 3) := by decide +kernel
theorem dX9_sends_8 : decode cX9_sends 8 = .ok (.iload_n 2, 1) := by decide +kernel
theorem dX9_sends_9 : decode cX9_sends 9 = .ok (.invokestatic 74, 3) := by decide +kernel
theorem dX9_sends_12 : decode cX9_sends 12 = .ok (.ifCond .eq 15, 3) := by decide +kernel
theorem dX9_sends_15 : decode cX9_sends 15 = .ok (.aload_n 0, 1) := by decide +kernel
theorem dX9_sends_16 : decode cX9_sends 16 = .ok (.bipush 19, 2) := by decide +kernel
theorem dX9_sends_18 : decode cX9_sends 18 = .ok (.iload_n 1, 1) := by decide +kernel
theorem dX9_sends_19 : decode cX9_sends 19 = .ok (.iadd, 1) := by decide +kernel
theorem dX9_sends_20 : decode cX9_sends 20 = .ok (.iload_n 2, 1) := by decide +kernel
theorem dX9_sends_21 : decode cX9_sends 21 = .ok (.invokevirtual 156, 3) := by decide +kernel
theorem dX9_sends_24 : decode cX9_sends 24 = .ok (.goto 9, 3) := by decide +kernel
theorem dX9_sends_27 : decode cX9_sends 27 = .ok (.aload_n 0, 1) := by decide +kernel
theorem dX9_sends_28 : decode cX9_sends 28 = .ok (.bipush (-2), 2) := by decide +kernel
theorem dX9_sends_30 : decode cX9_sends 30 = .ok (.invokevirtual 78, 3) := by decide +kernel
theorem dX9_sends_33 : decode cX9_sends 33 = .ok (.ireturn, 1) := by decide +kernel
theorem dX9_undo_0 : decode cX9_undo 0 = .ok (.aload_n 0, 1) := by decide +kernel
theorem dX9_undo_1 : decode cX9_undo 1 = .ok (.getfield 7, 3) := by decide +kernel
theorem dX9_undo_4 : decode cX9_undo 4 = .ok (.iconst 5, 1) := by decide +kernel
theorem dX9_undo_5 : decode cX9_undo 5 = .ok (.iaload, 1) := by decide +kernel
theorem dX9_undo_6 : decode cX9_undo 6 = .ok (.ifCond .ne 8, 3) := by decide +kernel
theorem dX9_undo_9 : decode cX9_undo 9 = .ok (.aload_n 0, 1) := by decide +kernel
theorem dX9_undo_10 : decode cX9_undo 10 = .ok (.invokevirtual 162, 3) := by decide +kernel
theorem dX9_undo_13 : decode cX9_undo 13 = .ok (.ireturn, 1) := by decide +kernel
theorem dX9_undo_14 : decode cX9_undo 14 = .ok (.aload_n 0, 1) := by decide +kernel
theorem dX9_undo_15 : decode cX9_undo 15 = .ok (.getfield 7, 3) := by decide +kernel
theorem dX9_undo_18 : decode cX9_undo 18 = .ok (.iconst 5, 1) := by decide +kernel
theorem dX9_undo_19 : decode cX9_undo 19 = .ok (.dup2, 1) := by decide +kernel
theorem dX9_undo_20 : decode cX9_undo 20 = .ok (.iaload, 1) := by decide +kernel
theorem dX9_undo_21 : decode cX9_undo 21 = .ok (.iconst 1, 1) := by decide +kernel
theorem dX9_undo_22 : decode cX9_undo 22 = .ok (.isub, 1) := by decide +kernel
theorem dX9_undo_23 : decode cX9_undo 23 = .ok (.iastore, 1) := by decide +kernel
theorem dX9_undo_24 : decode cX9_undo 24 = .ok (.iconst 0, 1) := by decide +kernel
theorem dX9_undo_25 : decode cX9_undo 25 = .ok (.istore_n 1, 1) := by decide +kernel
theorem dX9_undo_26 : decode cX9_undo 26 = .ok (.iload_n 1, 1) := by decide +kernel
theorem dX9_undo_27 : decode cX9_undo 27 = .ok (.bipush 24, 2) := by decide +kernel
theorem dX9_undo_29 : decode cX9_undo 29 = .ok (.if_icmp .ge 37, 3) := by decide +kernel
theorem dX9_undo_32 : decode cX9_undo 32 = .ok (.aload_n 0, 1) := by decide +kernel
theorem dX9_undo_33 : decode cX9_undo 33 = .ok (.getfield 7, 3) := by decide +kernel
theorem dX9_undo_36 : decode cX9_undo 36 = .ok (.bipush 6, 2) := by decide +kernel
theorem dX9_undo_38 : decode cX9_undo 38 = .ok (.iload_n 1, 1) := by decide +kernel
theorem dX9_undo_39 : decode cX9_undo 39 = .ok (.iadd, 1) := by decide +kernel
theorem dX9_undo_40 : decode cX9_undo 40 = .ok (.aload_n 0, 1) := by decide +kernel
theorem dX9_undo_41 : decode cX9_undo 41 = .ok (.getfield 7, 3) := by decide +kernel
theorem dX9_undo_44 : decode cX9_undo 44 = .ok (.bipush 112, 2) := by decide +kernel
theorem dX9_undo_46 : decode cX9_undo 46 = .ok (.bipush 24, 2) := by decide +kernel
theorem dX9_undo_48 : decode cX9_undo 48 = .ok (.aload_n 0, 1) := by decide +kernel
theorem dX9_undo_49 : decode cX9_undo 49 = .ok (.getfield 7, 3) := by decide +kernel
theorem dX9_undo_52 : decode cX9_undo 52 = .ok (.iconst 5, 1) := by decide +kernel
theorem dX9_undo_53 : decode cX9_undo 53 = .ok (.iaload, 1) := by decide +kernel
theorem dX9_undo_54 : decode cX9_undo 54 = .ok (.imul, 1) := by decide +kernel
theorem dX9_undo_55 : decode cX9_undo 55 = .ok (.iadd, 1) := by decide +kernel
theorem dX9_undo_56 : decode cX9_undo 56 = .ok (.iload_n 1, 1) := by decide +kernel
theorem dX9_undo_57 : decode cX9_undo 57 = .ok (.iadd, 1) := by decide +kernel
theorem dX9_undo_58 : decode cX9_undo 58 = .ok (.iaload, 1) := by decide +kernel
theorem dX9_undo_59 : decode cX9_undo 59 = .ok (.iastore, 1) := by decide +kernel
theorem dX9_undo_60 : decode cX9_undo 60 = .ok (.iinc 1 1, 3) := by decide +kernel
theorem dX9_undo_63 : decode cX9_undo 63 = .ok (.goto (-37), 3) := by decide +kernel
theorem dX9_undo_66 : decode cX9_undo 66 = .ok (.aload_n 0, 1) := by decide +kernel
theorem dX9_undo_67 : decode cX9_undo 67 = .ok (.getfield 7, 3) := by decide +kernel
theorem dX9_undo_70 : decode cX9_undo 70 = .ok (.bipush 13, 2) := by decide +kernel
theorem dX9_undo_72 : decode cX9_undo 72 = .ok (.iaload, 1) := by decide +kernel
theorem dX9_undo_73 : decode cX9_undo 73 = .ok (.ireturn, 1) := by decide +kernel
theorem dX9_of_0 : decode cX9_of 0 = .ok (.aload_n 0, 1) := by decide +kernel
theorem dX9_of_1 : decode cX9_of 1 = .ok (.iload_n 1, 1) := by decide +kernel
theorem dX9_of_2 : decode cX9_of 2 = .ok (.invokevirtual 153, 3) := by decide +kernel
theorem dX9_of_5 : decode cX9_of 5 = .ok (.ifCond .eq 15, 3) := by decide +kernel
theorem dX9_of_8 : decode cX9_of 8 = .ok (.iload_n 2, 1) := by decide +kernel
theorem dX9_of_9 : decode cX9_of 9 = .ok (.i2l, 1) := by decide +kernel
theorem dX9_of_10 : decode cX9_of 10 = .ok (.lconst 0, 1) := by decide +kernel
theorem dX9_of_11 : decode cX9_of 11 = .ok (.ldc2_w 165, 3) := by decide +kernel
theorem dX9_of_14 : decode cX9_of 14 = .ok (.invokestatic 59, 3) := by decide +kernel
theorem dX9_of_17 : decode cX9_of 17 = .ok (.ifCond .ne 10, 3) := by decide +kernel
theorem dX9_of_20 : decode cX9_of 20 = .ok (.aload_n 0, 1) := by decide +kernel
theorem dX9_of_21 : decode cX9_of 21 = .ok (.bipush (-2), 2) := by decide +kernel
theorem dX9_of_23 : decode cX9_of 23 = .ok (.invokevirtual 78, 3) := by decide +kernel
theorem dX9_of_26 : decode cX9_of 26 = .ok (.ireturn, 1) := by decide +kernel
theorem dX9_of_27 : decode cX9_of 27 = .ok (.iload_n 2, 1) := by decide +kernel
theorem dX9_of_28 : decode cX9_of 28 = .ok (.tableswitch 58 0 2 #[28, 38, 48], 28) := by decide +kernel
theorem dX9_of_56 : decode cX9_of 56 = .ok (.aload_n 0, 1) := by decide +kernel
theorem dX9_of_57 : decode cX9_of 57 = .ok (.getfield 7, 3) := by decide +kernel
theorem dX9_of_60 : decode cX9_of 60 = .ok (.bipush 30, 2) := by decide +kernel
theorem dX9_of_62 : decode cX9_of 62 = .ok (.iload_n 1, 1) := by decide +kernel
theorem dX9_of_63 : decode cX9_of 63 = .ok (.iadd, 1) := by decide +kernel
theorem dX9_of_64 : decode cX9_of 64 = .ok (.iaload, 1) := by decide +kernel
theorem dX9_of_65 : decode cX9_of 65 = .ok (.ireturn, 1) := by decide +kernel
theorem dX9_of_66 : decode cX9_of 66 = .ok (.aload_n 0, 1) := by decide +kernel
theorem dX9_of_67 : decode cX9_of 67 = .ok (.getfield 7, 3) := by decide +kernel
theorem dX9_of_70 : decode cX9_of 70 = .ok (.bipush 14, 2) := by decide +kernel
theorem dX9_of_72 : decode cX9_of 72 = .ok (.iload_n 1, 1) := by decide +kernel
theorem dX9_of_73 : decode cX9_of 73 = .ok (.iadd, 1) := by decide +kernel
theorem dX9_of_74 : decode cX9_of 74 = .ok (.iaload, 1) := by decide +kernel
theorem dX9_of_75 : decode cX9_of 75 = .ok (.ireturn, 1) := by decide +kernel
theorem dX9_of_76 : decode cX9_of 76 = .ok (.aload_n 0, 1) := by decide +kernel
theorem dX9_of_77 : decode cX9_of 77 = .ok (.getfield 7, 3) := by decide +kernel
theorem dX9_of_80 : decode cX9_of 80 = .ok (.bipush 35, 2) := by decide +kernel
theorem dX9_of_82 : decode cX9_of 82 = .ok (.iload_n 1, 1) := by decide +kernel
theorem dX9_of_83 : decode cX9_of 83 = .ok (.iadd, 1) := by decide +kernel
theorem dX9_of_84 : decode cX9_of 84 = .ok (.iaload, 1) := by decide +kernel
theorem dX9_of_85 : decode cX9_of 85 = .ok (.ireturn, 1) := by decide +kernel
theorem dX9_of_86 : decode cX9_of 86 = .ok (.aload_n 0, 1) := by decide +kernel
theorem dX9_of_87 : decode cX9_of 87 = .ok (.getfield 7, 3) := by decide +kernel
theorem dX9_of_90 : decode cX9_of 90 = .ok (.bipush 25, 2) := by decide +kernel
theorem dX9_of_92 : decode cX9_of 92 = .ok (.iload_n 1, 1) := by decide +kernel
theorem dX9_of_93 : decode cX9_of 93 = .ok (.iadd, 1) := by decide +kernel
theorem dX9_of_94 : decode cX9_of 94 = .ok (.iaload, 1) := by decide +kernel
theorem dX9_of_95 : decode cX9_of 95 = .ok (.ireturn, 1) := by decide +kernel
theorem dX9_about_0 : decode cX9_about 0 = .ok (.aload_n 0, 1) := by decide +kernel
theorem dX9_about_1 : decode cX9_about 1 = .ok (.iload_n 1, 1) := by decide +kernel
theorem dX9_about_2 : decode cX9_about 2 = .ok (.invokevirtual 159, 3) := by decide +kernel
theorem dX9_about_5 : decode cX9_about 5 = .ok (.ifCond .eq 15, 3) := by decide +kernel
theorem dX9_about_8 : decode cX9_about 8 = .ok (.iload_n 2, 1) := by decide +kernel
theorem dX9_about_9 : decode cX9_about 9 = .ok (.i2l, 1) := by decide +kernel
theorem dX9_about_10 : decode cX9_about 10 = .ok (.lconst 0, 1) := by decide +kernel
theorem dX9_about_11 : decode cX9_about 11 = .ok (.ldc2_w 167, 3) := by decide +kernel
theorem dX9_about_14 : decode cX9_about 14 = .ok (.invokestatic 59, 3) := by decide +kernel
theorem dX9_about_17 : decode cX9_about 17 = .ok (.ifCond .ne 10, 3) := by decide +kernel
theorem dX9_about_20 : decode cX9_about 20 = .ok (.aload_n 0, 1) := by decide +kernel
theorem dX9_about_21 : decode cX9_about 21 = .ok (.bipush (-2), 2) := by decide +kernel
theorem dX9_about_23 : decode cX9_about 23 = .ok (.invokevirtual 78, 3) := by decide +kernel
theorem dX9_about_26 : decode cX9_about 26 = .ok (.ireturn, 1) := by decide +kernel
theorem dX9_about_27 : decode cX9_about 27 = .ok (.aload_n 0, 1) := by decide +kernel
theorem dX9_about_28 : decode cX9_about 28 = .ok (.getfield 7, 3) := by decide +kernel
theorem dX9_about_31 : decode cX9_about 31 = .ok (.iload_n 2, 1) := by decide +kernel
theorem dX9_about_32 : decode cX9_about 32 = .ok (.ifCond .ne 8, 3) := by decide +kernel
theorem dX9_about_35 : decode cX9_about 35 = .ok (.bipush 40, 2) := by decide +kernel
theorem dX9_about_37 : decode cX9_about 37 = .ok (.goto 15, 3) := by decide +kernel
theorem dX9_about_40 : decode cX9_about 40 = .ok (.iload_n 2, 1) := by decide +kernel
theorem dX9_about_41 : decode cX9_about 41 = .ok (.iconst 1, 1) := by decide +kernel
theorem dX9_about_42 : decode cX9_about 42 = .ok (.if_icmp .ne 8, 3) := by decide +kernel
theorem dX9_about_45 : decode cX9_about 45 = .ok (.bipush 19, 2) := by decide +kernel
theorem dX9_about_47 : decode cX9_about 47 = .ok (.goto 5, 3) := by decide +kernel
theorem dX9_about_50 : decode cX9_about 50 = .ok (.bipush 6, 2) := by decide +kernel
theorem dX9_about_52 : decode cX9_about 52 = .ok (.iload_n 1, 1) := by decide +kernel
theorem dX9_about_53 : decode cX9_about 53 = .ok (.iadd, 1) := by decide +kernel
theorem dX9_about_54 : decode cX9_about 54 = .ok (.iaload, 1) := by decide +kernel
theorem dX9_about_55 : decode cX9_about 55 = .ok (.ireturn, 1) := by decide +kernel
theorem dX9_pull_0 : decode cX9_pull 0 = .ok (.aload_n 0, 1) := by decide +kernel
theorem dX9_pull_1 : decode cX9_pull 1 = .ok (.iload_n 1, 1) := by decide +kernel
theorem dX9_pull_2 : decode cX9_pull 2 = .ok (.invokevirtual 153, 3) := by decide +kernel
theorem dX9_pull_5 : decode cX9_pull 5 = .ok (.ifCond .eq 35, 3) := by decide +kernel
theorem dX9_pull_8 : decode cX9_pull 8 = .ok (.aload_n 0, 1) := by decide +kernel
theorem dX9_pull_9 : decode cX9_pull 9 = .ok (.iload_n 2, 1) := by decide +kernel
theorem dX9_pull_10 : decode cX9_pull 10 = .ok (.invokevirtual 159, 3) := by decide +kernel
theorem dX9_pull_13 : decode cX9_pull 13 = .ok (.ifCond .eq 27, 3) := by decide +kernel
theorem dX9_pull_16 : decode cX9_pull 16 = .ok (.aload_n 0, 1) := by decide +kernel
theorem dX9_pull_17 : decode cX9_pull 17 = .ok (.getfield 7, 3) := by decide +kernel
theorem dX9_pull_20 : decode cX9_pull 20 = .ok (.iload_n 1, 1) := by decide +kernel
theorem dX9_pull_21 : decode cX9_pull 21 = .ok (.aload_n 0, 1) := by decide +kernel
theorem dX9_pull_22 : decode cX9_pull 22 = .ok (.getfield 7, 3) := by decide +kernel
theorem dX9_pull_25 : decode cX9_pull 25 = .ok (.bipush 19, 2) := by decide +kernel
theorem dX9_pull_27 : decode cX9_pull 27 = .ok (.iload_n 2, 1) := by decide +kernel
theorem dX9_pull_28 : decode cX9_pull 28 = .ok (.iadd, 1) := by decide +kernel
theorem dX9_pull_29 : decode cX9_pull 29 = .ok (.iaload, 1) := by decide +kernel
theorem dX9_pull_30 : decode cX9_pull 30 = .ok (.aload_n 0, 1) := by decide +kernel
theorem dX9_pull_31 : decode cX9_pull 31 = .ok (.invokevirtual 169, 3) := by decide +kernel
theorem dX9_pull_34 : decode cX9_pull 34 = .ok (.invokestatic 118, 3) := by decide +kernel
theorem dX9_pull_37 : decode cX9_pull 37 = .ok (.goto 9, 3) := by decide +kernel
theorem dX9_pull_40 : decode cX9_pull 40 = .ok (.aload_n 0, 1) := by decide +kernel
theorem dX9_pull_41 : decode cX9_pull 41 = .ok (.bipush (-2), 2) := by decide +kernel
theorem dX9_pull_43 : decode cX9_pull 43 = .ok (.invokevirtual 78, 3) := by decide +kernel
theorem dX9_pull_46 : decode cX9_pull 46 = .ok (.ireturn, 1) := by decide +kernel
theorem dX9_drawn_0 : decode cX9_drawn 0 = .ok (.aload_n 0, 1) := by decide +kernel
theorem dX9_drawn_1 : decode cX9_drawn 1 = .ok (.iload_n 1, 1) := by decide +kernel
theorem dX9_drawn_2 : decode cX9_drawn 2 = .ok (.invokevirtual 159, 3) := by decide +kernel
theorem dX9_drawn_5 : decode cX9_drawn 5 = .ok (.ifCond .eq 13, 3) := by decide +kernel
theorem dX9_drawn_8 : decode cX9_drawn 8 = .ok (.iload_n 2, 1) := by decide +kernel
theorem dX9_drawn_9 : decode cX9_drawn 9 = .ok (.i2l, 1) := by decide +kernel
theorem dX9_drawn_10 : decode cX9_drawn 10 = .ok (.lconst 0, 1) := by decide +kernel
theorem dX9_drawn_11 : decode cX9_drawn 11 = .ok (.lconst 1, 1) := by decide +kernel
theorem dX9_drawn_12 : decode cX9_drawn 12 = .ok (.invokestatic 59, 3) := by decide +kernel
theorem dX9_drawn_15 : decode cX9_drawn 15 = .ok (.ifCond .ne 10, 3) := by decide +kernel
theorem dX9_drawn_18 : decode cX9_drawn 18 = .ok (.aload_n 0, 1) := by decide +kernel
theorem dX9_drawn_19 : decode cX9_drawn 19 = .ok (.bipush (-2), 2) := by decide +kernel
theorem dX9_drawn_21 : decode cX9_drawn 21 = .ok (.invokevirtual 78, 3) := by decide +kernel
theorem dX9_drawn_24 : decode cX9_drawn 24 = .ok (.ireturn, 1) := by decide +kernel
theorem dX9_drawn_25 : decode cX9_drawn 25 = .ok (.aload_n 0, 1) := by decide +kernel
theorem dX9_drawn_26 : decode cX9_drawn 26 = .ok (.getfield 7, 3) := by decide +kernel
theorem dX9_drawn_29 : decode cX9_drawn 29 = .ok (.aload_n 0, 1) := by decide +kernel
theorem dX9_drawn_30 : decode cX9_drawn 30 = .ok (.getfield 7, 3) := by decide +kernel
theorem dX9_drawn_33 : decode cX9_drawn 33 = .ok (.invokestatic 133, 3) := by decide +kernel
theorem dX9_drawn_36 : decode cX9_drawn 36 = .ok (.aload_n 0, 1) := by decide +kernel
theorem dX9_drawn_37 : decode cX9_drawn 37 = .ok (.getfield 7, 3) := by decide +kernel
theorem dX9_drawn_40 : decode cX9_drawn 40 = .ok (.bipush 19, 2) := by decide +kernel
theorem dX9_drawn_42 : decode cX9_drawn 42 = .ok (.iload_n 1, 1) := by decide +kernel
theorem dX9_drawn_43 : decode cX9_drawn 43 = .ok (.iadd, 1) := by decide +kernel
theorem dX9_drawn_44 : decode cX9_drawn 44 = .ok (.iaload, 1) := by decide +kernel
theorem dX9_drawn_45 : decode cX9_drawn 45 = .ok (.aload_n 0, 1) := by decide +kernel
theorem dX9_drawn_46 : decode cX9_drawn 46 = .ok (.invokevirtual 169, 3) := by decide +kernel
theorem dX9_drawn_49 : decode cX9_drawn 49 = .ok (.invokestatic 122, 3) := by decide +kernel
theorem dX9_drawn_52 : decode cX9_drawn 52 = .ok (.istore_n 3, 1) := by decide +kernel
theorem dX9_drawn_53 : decode cX9_drawn 53 = .ok (.iload_n 2, 1) := by decide +kernel
theorem dX9_drawn_54 : decode cX9_drawn 54 = .ok (.iconst 1, 1) := by decide +kernel
theorem dX9_drawn_55 : decode cX9_drawn 55 = .ok (.if_icmp .ne 17, 3) := by decide +kernel
theorem dX9_drawn_58 : decode cX9_drawn 58 = .ok (.aload_n 0, 1) := by decide +kernel
theorem dX9_drawn_59 : decode cX9_drawn 59 = .ok (.getfield 7, 3) := by decide +kernel
theorem dX9_drawn_62 : decode cX9_drawn 62 = .ok (.bipush 40, 2) := by decide +kernel
theorem dX9_drawn_64 : decode cX9_drawn 64 = .ok (.iload_n 1, 1) := by decide +kernel
theorem dX9_drawn_65 : decode cX9_drawn 65 = .ok (.iadd, 1) := by decide +kernel
theorem dX9_drawn_66 : decode cX9_drawn 66 = .ok (.iaload, 1) := by decide +kernel
theorem dX9_drawn_67 : decode cX9_drawn 67 = .ok (.iload_n 3, 1) := by decide +kernel
theorem dX9_drawn_68 : decode cX9_drawn 68 = .ok (.invokestatic 104, 3) := by decide +kernel
theorem dX9_drawn_71 : decode cX9_drawn 71 = .ok (.ireturn, 1) := by decide +kernel
theorem dX9_drawn_72 : decode cX9_drawn 72 = .ok (.iconst 0, 1) := by decide +kernel
theorem dX9_drawn_73 : decode cX9_drawn 73 = .ok (.istore 4, 2) := by decide +kernel
theorem dX9_drawn_75 : decode cX9_drawn 75 = .ok (.iload 4, 2) := by decide +kernel
theorem dX9_drawn_77 : decode cX9_drawn 77 = .ok (.aload_n 0, 1) := by decide +kernel
theorem dX9_drawn_78 : decode cX9_drawn 78 = .ok (.invokevirtual 55, 3) := by decide +kernel
theorem dX9_drawn_81 : decode cX9_drawn 81 = .ok (.if_icmp .ge 41, 3) := by decide +kernel
theorem dX9_drawn_84 : decode cX9_drawn 84 = .ok (.iload_n 3, 1) := by decide +kernel
theorem dX9_drawn_85 : decode cX9_drawn 85 = .ok (.ifCond .le 37, 3) := by decide +kernel
theorem dX9_drawn_88 : decode cX9_drawn 88 = .ok (.aload_n 0, 1) := by decide +kernel
theorem dX9_drawn_89 : decode cX9_drawn 89 = .ok (.getfield 7, 3) := by decide +kernel
theorem dX9_drawn_92 : decode cX9_drawn 92 = .ok (.bipush 25, 2) := by decide +kernel
theorem dX9_drawn_94 : decode cX9_drawn 94 = .ok (.iload 4, 2) := by decide +kernel
theorem dX9_drawn_96 : decode cX9_drawn 96 = .ok (.iadd, 1) := by decide +kernel
theorem dX9_drawn_97 : decode cX9_drawn 97 = .ok (.iaload, 1) := by decide +kernel
theorem dX9_drawn_98 : decode cX9_drawn 98 = .ok (.iconst 1, 1) := by decide +kernel
theorem dX9_drawn_99 : decode cX9_drawn 99 = .ok (.if_icmp .ne 17, 3) := by decide +kernel
theorem dX9_drawn_102 : decode cX9_drawn 102 = .ok (.aload_n 0, 1) := by decide +kernel
theorem dX9_drawn_103 : decode cX9_drawn 103 = .ok (.iload 4, 2) := by decide +kernel
theorem dX9_drawn_105 : decode cX9_drawn 105 = .ok (.iload_n 1, 1) := by decide +kernel
theorem dX9_drawn_106 : decode cX9_drawn 106 = .ok (.invokevirtual 172, 3) := by decide +kernel
theorem dX9_drawn_109 : decode cX9_drawn 109 = .ok (.iload_n 3, 1) := by decide +kernel
theorem dX9_drawn_110 : decode cX9_drawn 110 = .ok (.if_icmp .ne 6, 3) := by decide +kernel
theorem dX9_drawn_113 : decode cX9_drawn 113 = .ok (.iload 4, 2) := by decide +kernel
theorem dX9_drawn_115 : decode cX9_drawn 115 = .ok (.ireturn, 1) := by decide +kernel
theorem dX9_drawn_116 : decode cX9_drawn 116 = .ok (.iinc 4 1, 3) := by decide +kernel
theorem dX9_drawn_119 : decode cX9_drawn 119 = .ok (.goto (-44), 3) := by decide +kernel
theorem dX9_drawn_122 : decode cX9_drawn 122 = .ok (.iconst (-1), 1) := by decide +kernel
theorem dX9_drawn_123 : decode cX9_drawn 123 = .ok (.ireturn, 1) := by decide +kernel
theorem dX9_sees_0 : decode cX9_sees 0 = .ok (.iload_n 1, 1) := by decide +kernel
theorem dX9_sees_1 : decode cX9_sees 1 = .ok (.i2l, 1) := by decide +kernel
theorem dX9_sees_2 : decode cX9_sees 2 = .ok (.ldc2_w 175, 3) := by decide +kernel
theorem dX9_sees_5 : decode cX9_sees 5 = .ok (.aload_n 0, 1) := by decide +kernel
theorem dX9_sees_6 : decode cX9_sees 6 = .ok (.invokevirtual 63, 3) := by decide +kernel
theorem dX9_sees_9 : decode cX9_sees 9 = .ok (.iconst 1, 1) := by decide +kernel
theorem dX9_sees_10 : decode cX9_sees 10 = .ok (.isub, 1) := by decide +kernel
theorem dX9_sees_11 : decode cX9_sees 11 = .ok (.i2l, 1) := by decide +kernel
theorem dX9_sees_12 : decode cX9_sees 12 = .ok (.invokestatic 59, 3) := by decide +kernel
theorem dX9_sees_15 : decode cX9_sees 15 = .ok (.ifCond .eq 10, 3) := by decide +kernel
theorem dX9_sees_18 : decode cX9_sees 18 = .ok (.iload_n 2, 1) := by decide +kernel
theorem dX9_sees_19 : decode cX9_sees 19 = .ok (.invokestatic 74, 3) := by decide +kernel
theorem dX9_sees_22 : decode cX9_sees 22 = .ok (.ifCond .ne 10, 3) := by decide +kernel
theorem dX9_sees_25 : decode cX9_sees 25 = .ok (.aload_n 0, 1) := by decide +kernel
theorem dX9_sees_26 : decode cX9_sees 26 = .ok (.bipush (-2), 2) := by decide +kernel
theorem dX9_sees_28 : decode cX9_sees 28 = .ok (.invokevirtual 78, 3) := by decide +kernel
theorem dX9_sees_31 : decode cX9_sees 31 = .ok (.ireturn, 1) := by decide +kernel
theorem dX9_sees_32 : decode cX9_sees 32 = .ok (.aload_n 0, 1) := by decide +kernel
theorem dX9_sees_33 : decode cX9_sees 33 = .ok (.getfield 7, 3) := by decide +kernel
theorem dX9_sees_36 : decode cX9_sees 36 = .ok (.iload_n 2, 1) := by decide +kernel
theorem dX9_sees_37 : decode cX9_sees 37 = .ok (.aload_n 0, 1) := by decide +kernel
theorem dX9_sees_38 : decode cX9_sees 38 = .ok (.getfield 7, 3) := by decide +kernel
theorem dX9_sees_41 : decode cX9_sees 41 = .ok (.invokestatic 133, 3) := by decide +kernel
theorem dX9_sees_44 : decode cX9_sees 44 = .ok (.aload_n 0, 1) := by decide +kernel
theorem dX9_sees_45 : decode cX9_sees 45 = .ok (.invokevirtual 169, 3) := by decide +kernel
theorem dX9_sees_48 : decode cX9_sees 48 = .ok (.invokestatic 137, 3) := by decide +kernel
theorem dX9_sees_51 : decode cX9_sees 51 = .ok (.istore_n 3, 1) := by decide +kernel
theorem dX9_sees_52 : decode cX9_sees 52 = .ok (.iload_n 1, 1) := by decide +kernel
theorem dX9_sees_53 : decode cX9_sees 53 = .ok (.iconst (-1), 1) := by decide +kernel
theorem dX9_sees_54 : decode cX9_sees 54 = .ok (.if_icmp .ne 7, 3) := by decide +kernel
theorem dX9_sees_57 : decode cX9_sees 57 = .ok (.iload_n 3, 1) := by decide +kernel
theorem dX9_sees_58 : decode cX9_sees 58 = .ok (.goto 8, 3) := by decide +kernel
theorem dX9_sees_61 : decode cX9_sees 61 = .ok (.iload_n 3, 1) := by decide +kernel
theorem dX9_sees_62 : decode cX9_sees 62 = .ok (.iload_n 1, 1) := by decide +kernel
theorem dX9_sees_63 : decode cX9_sees 63 = .ok (.ishr, 1) := by decide +kernel
theorem dX9_sees_64 : decode cX9_sees 64 = .ok (.iconst 1, 1) := by decide +kernel
theorem dX9_sees_65 : decode cX9_sees 65 = .ok (.iand, 1) := by decide +kernel
theorem dX9_sees_66 : decode cX9_sees 66 = .ok (.ireturn, 1) := by decide +kernel
theorem dX9_unseen_0 : decode cX9_unseen 0 = .ok (.iload_n 1, 1) := by decide +kernel
theorem dX9_unseen_1 : decode cX9_unseen 1 = .ok (.invokestatic 177, 3) := by decide +kernel
theorem dX9_unseen_4 : decode cX9_unseen 4 = .ok (.ifCond .ne 10, 3) := by decide +kernel
theorem dX9_unseen_7 : decode cX9_unseen 7 = .ok (.aload_n 0, 1) := by decide +kernel
theorem dX9_unseen_8 : decode cX9_unseen 8 = .ok (.bipush (-2), 2) := by decide +kernel
theorem dX9_unseen_10 : decode cX9_unseen 10 = .ok (.invokevirtual 78, 3) := by decide +kernel
theorem dX9_unseen_13 : decode cX9_unseen 13 = .ok (.ireturn, 1) := by decide +kernel
theorem dX9_unseen_14 : decode cX9_unseen 14 = .ok (.iconst 0, 1) := by decide +kernel
theorem dX9_unseen_15 : decode cX9_unseen 15 = .ok (.istore_n 2, 1) := by decide +kernel
theorem dX9_unseen_16 : decode cX9_unseen 16 = .ok (.iconst 0, 1) := by decide +kernel
theorem dX9_unseen_17 : decode cX9_unseen 17 = .ok (.istore_n 3, 1) := by decide +kernel
theorem dX9_unseen_18 : decode cX9_unseen 18 = .ok (.iload_n 3, 1) := by decide +kernel
theorem dX9_unseen_19 : decode cX9_unseen 19 = .ok (.bipush 30, 2) := by decide +kernel
theorem dX9_unseen_21 : decode cX9_unseen 21 = .ok (.if_icmp .ge 38, 3) := by decide +kernel
theorem dX9_unseen_24 : decode cX9_unseen 24 = .ok (.iload_n 2, 1) := by decide +kernel
theorem dX9_unseen_25 : decode cX9_unseen 25 = .ok (.aload_n 0, 1) := by decide +kernel
theorem dX9_unseen_26 : decode cX9_unseen 26 = .ok (.getfield 7, 3) := by decide +kernel
theorem dX9_unseen_29 : decode cX9_unseen 29 = .ok (.iload_n 3, 1) := by decide +kernel
theorem dX9_unseen_30 : decode cX9_unseen 30 = .ok (.aload_n 0, 1) := by decide +kernel
theorem dX9_unseen_31 : decode cX9_unseen 31 = .ok (.getfield 7, 3) := by decide +kernel
theorem dX9_unseen_34 : decode cX9_unseen 34 = .ok (.invokestatic 133, 3) := by decide +kernel
theorem dX9_unseen_37 : decode cX9_unseen 37 = .ok (.iload_n 1, 1) := by decide +kernel
theorem dX9_unseen_38 : decode cX9_unseen 38 = .ok (.invokestatic 137, 3) := by decide +kernel
theorem dX9_unseen_41 : decode cX9_unseen 41 = .ok (.ifCond .ne 9, 3) := by decide +kernel
theorem dX9_unseen_44 : decode cX9_unseen 44 = .ok (.iconst 1, 1) := by decide +kernel
theorem dX9_unseen_45 : decode cX9_unseen 45 = .ok (.iload_n 3, 1) := by decide +kernel
theorem dX9_unseen_46 : decode cX9_unseen 46 = .ok (.ishl, 1) := by decide +kernel
theorem dX9_unseen_47 : decode cX9_unseen 47 = .ok (.goto 4, 3) := by decide +kernel
theorem dX9_unseen_50 : decode cX9_unseen 50 = .ok (.iconst 0, 1) := by decide +kernel
theorem dX9_unseen_51 : decode cX9_unseen 51 = .ok (.ior, 1) := by decide +kernel
theorem dX9_unseen_52 : decode cX9_unseen 52 = .ok (.istore_n 2, 1) := by decide +kernel
theorem dX9_unseen_53 : decode cX9_unseen 53 = .ok (.iinc 3 1, 3) := by decide +kernel
theorem dX9_unseen_56 : decode cX9_unseen 56 = .ok (.goto (-38), 3) := by decide +kernel
theorem dX9_unseen_59 : decode cX9_unseen 59 = .ok (.iload_n 2, 1) := by decide +kernel
theorem dX9_unseen_60 : decode cX9_unseen 60 = .ok (.ireturn, 1) := by decide +kernel
theorem dX9_isUnseenIn_0 : decode cX9_isUnseenIn 0 = .ok (.aload_n 0, 1) := by decide +kernel
theorem dX9_isUnseenIn_1 : decode cX9_isUnseenIn 1 = .ok (.getfield 7, 3) := by decide +kernel
theorem dX9_isUnseenIn_4 : decode cX9_isUnseenIn 4 = .ok (.iload_n 1, 1) := by decide +kernel
theorem dX9_isUnseenIn_5 : decode cX9_isUnseenIn 5 = .ok (.aload_n 0, 1) := by decide +kernel
theorem dX9_isUnseenIn_6 : decode cX9_isUnseenIn 6 = .ok (.getfield 7, 3) := by decide +kernel
theorem dX9_isUnseenIn_9 : decode cX9_isUnseenIn 9 = .ok (.invokestatic 133, 3) := by decide +kernel
theorem dX9_isUnseenIn_12 : decode cX9_isUnseenIn 12 = .ok (.aload_n 0, 1) := by decide +kernel
theorem dX9_isUnseenIn_13 : decode cX9_isUnseenIn 13 = .ok (.getfield 7, 3) := by decide +kernel
theorem dX9_isUnseenIn_16 : decode cX9_isUnseenIn 16 = .ok (.bipush 13, 2) := by decide +kernel
theorem dX9_isUnseenIn_18 : decode cX9_isUnseenIn 18 = .ok (.iaload, 1) := by decide +kernel
theorem dX9_isUnseenIn_19 : decode cX9_isUnseenIn 19 = .ok (.iload_n 2, 1) := by decide +kernel
theorem dX9_isUnseenIn_20 : decode cX9_isUnseenIn 20 = .ok (.iadd, 1) := by decide +kernel
theorem dX9_isUnseenIn_21 : decode cX9_isUnseenIn 21 = .ok (.bipush 12, 2) := by decide +kernel
theorem dX9_isUnseenIn_23 : decode cX9_isUnseenIn 23 = .ok (.irem, 1) := by decide +kernel
theorem dX9_isUnseenIn_24 : decode cX9_isUnseenIn 24 = .ok (.invokestatic 137, 3) := by decide +kernel
theorem dX9_isUnseenIn_27 : decode cX9_isUnseenIn 27 = .ok (.ifCond .ne 7, 3) := by decide +kernel
theorem dX9_isUnseenIn_30 : decode cX9_isUnseenIn 30 = .ok (.iconst 1, 1) := by decide +kernel
theorem dX9_isUnseenIn_31 : decode cX9_isUnseenIn 31 = .ok (.goto 4, 3) := by decide +kernel
theorem dX9_isUnseenIn_34 : decode cX9_isUnseenIn 34 = .ok (.iconst 0, 1) := by decide +kernel
theorem dX9_isUnseenIn_35 : decode cX9_isUnseenIn 35 = .ok (.ireturn, 1) := by decide +kernel
theorem dX9_when_0 : decode cX9_when 0 = .ok (.iload_n 1, 1) := by decide +kernel
theorem dX9_when_1 : decode cX9_when 1 = .ok (.invokestatic 74, 3) := by decide +kernel
theorem dX9_when_4 : decode cX9_when 4 = .ok (.ifCond .ne 10, 3) := by decide +kernel
theorem dX9_when_7 : decode cX9_when 7 = .ok (.aload_n 0, 1) := by decide +kernel
theorem dX9_when_8 : decode cX9_when 8 = .ok (.bipush (-2), 2) := by decide +kernel
theorem dX9_when_10 : decode cX9_when 10 = .ok (.invokevirtual 78, 3) := by decide +kernel
theorem dX9_when_13 : decode cX9_when 13 = .ok (.ireturn, 1) := by decide +kernel
theorem dX9_when_14 : decode cX9_when 14 = .ok (.iconst 0, 1) := by decide +kernel
theorem dX9_when_15 : decode cX9_when 15 = .ok (.istore_n 2, 1) := by decide +kernel
theorem dX9_when_16 : decode cX9_when 16 = .ok (.iload_n 2, 1) := by decide +kernel
theorem dX9_when_17 : decode cX9_when 17 = .ok (.bipush 24, 2) := by decide +kernel
theorem dX9_when_19 : decode cX9_when 19 = .ok (.if_icmp .ge 20, 3) := by decide +kernel
theorem dX9_when_22 : decode cX9_when 22 = .ok (.aload_n 0, 1) := by decide +kernel
theorem dX9_when_23 : decode cX9_when 23 = .ok (.iload_n 1, 1) := by decide +kernel
theorem dX9_when_24 : decode cX9_when 24 = .ok (.iload_n 2, 1) := by decide +kernel
theorem dX9_when_25 : decode cX9_when 25 = .ok (.invokevirtual 180, 3) := by decide +kernel
theorem dX9_when_28 : decode cX9_when 28 = .ok (.ifCond .eq 5, 3) := by decide +kernel
theorem dX9_when_31 : decode cX9_when 31 = .ok (.iload_n 2, 1) := by decide +kernel
theorem dX9_when_32 : decode cX9_when 32 = .ok (.ireturn, 1) := by decide +kernel
theorem dX9_when_33 : decode cX9_when 33 = .ok (.iinc 2 1, 3) := by decide +kernel
theorem dX9_when_36 : decode cX9_when 36 = .ok (.goto (-20), 3) := by decide +kernel
theorem dX9_when_39 : decode cX9_when 39 = .ok (.iconst (-1), 1) := by decide +kernel
theorem dX9_when_40 : decode cX9_when 40 = .ok (.ireturn, 1) := by decide +kernel
theorem dX9_enough_0 : decode cX9_enough 0 = .ok (.iload_n 1, 1) := by decide +kernel
theorem dX9_enough_1 : decode cX9_enough 1 = .ok (.invokestatic 74, 3) := by decide +kernel
theorem dX9_enough_4 : decode cX9_enough 4 = .ok (.ifCond .ne 10, 3) := by decide +kernel
theorem dX9_enough_7 : decode cX9_enough 7 = .ok (.aload_n 0, 1) := by decide +kernel
theorem dX9_enough_8 : decode cX9_enough 8 = .ok (.bipush (-2), 2) := by decide +kernel
theorem dX9_enough_10 : decode cX9_enough 10 = .ok (.invokevirtual 78, 3) := by decide +kernel
theorem dX9_enough_13 : decode cX9_enough 13 = .ok (.ireturn, 1) := by decide +kernel
theorem dX9_enough_14 : decode cX9_enough 14 = .ok (.iconst (-1), 1) := by decide +kernel
theorem dX9_enough_15 : decode cX9_enough 15 = .ok (.istore_n 2, 1) := by decide +kernel
theorem dX9_enough_16 : decode cX9_enough 16 = .ok (.iconst 0, 1) := by decide +kernel
theorem dX9_enough_17 : decode cX9_enough 17 = .ok (.istore_n 3, 1) := by decide +kernel
theorem dX9_enough_18 : decode cX9_enough 18 = .ok (.iload_n 3, 1) := by decide +kernel
theorem dX9_enough_19 : decode cX9_enough 19 = .ok (.iconst 1, 1) := by decide +kernel
theorem dX9_enough_20 : decode cX9_enough 20 = .ok (.aload_n 0, 1) := by decide +kernel
theorem dX9_enough_21 : decode cX9_enough 21 = .ok (.invokevirtual 55, 3) := by decide +kernel
theorem dX9_enough_24 : decode cX9_enough 24 = .ok (.ishl, 1) := by decide +kernel
theorem dX9_enough_25 : decode cX9_enough 25 = .ok (.if_icmp .ge 59, 3) := by decide +kernel
theorem dX9_enough_28 : decode cX9_enough 28 = .ok (.iload_n 2, 1) := by decide +kernel
theorem dX9_enough_29 : decode cX9_enough 29 = .ok (.iconst (-1), 1) := by decide +kernel
theorem dX9_enough_30 : decode cX9_enough 30 = .ok (.if_icmp .eq 14, 3) := by decide +kernel
theorem dX9_enough_33 : decode cX9_enough 33 = .ok (.iload_n 3, 1) := by decide +kernel
theorem dX9_enough_34 : decode cX9_enough 34 = .ok (.invokestatic 183, 3) := by decide +kernel
theorem dX9_enough_37 : decode cX9_enough 37 = .ok (.iload_n 2, 1) := by decide +kernel
theorem dX9_enough_38 : decode cX9_enough 38 = .ok (.invokestatic 183, 3) := by decide +kernel
theorem dX9_enough_41 : decode cX9_enough 41 = .ok (.if_icmp .ge 7, 3) := by decide +kernel
theorem dX9_enough_44 : decode cX9_enough 44 = .ok (.iconst 1, 1) := by decide +kernel
theorem dX9_enough_45 : decode cX9_enough 45 = .ok (.goto 4, 3) := by decide +kernel
theorem dX9_enough_48 : decode cX9_enough 48 = .ok (.iconst 0, 1) := by decide +kernel
theorem dX9_enough_49 : decode cX9_enough 49 = .ok (.istore 4, 2) := by decide +kernel
theorem dX9_enough_51 : decode cX9_enough 51 = .ok (.iload 4, 2) := by decide +kernel
theorem dX9_enough_53 : decode cX9_enough 53 = .ok (.ifCond .eq 23, 3) := by decide +kernel
theorem dX9_enough_56 : decode cX9_enough 56 = .ok (.aload_n 0, 1) := by decide +kernel
theorem dX9_enough_57 : decode cX9_enough 57 = .ok (.getfield 7, 3) := by decide +kernel
theorem dX9_enough_60 : decode cX9_enough 60 = .ok (.iload_n 1, 1) := by decide +kernel
theorem dX9_enough_61 : decode cX9_enough 61 = .ok (.iload_n 3, 1) := by decide +kernel
theorem dX9_enough_62 : decode cX9_enough 62 = .ok (.aload_n 0, 1) := by decide +kernel
theorem dX9_enough_63 : decode cX9_enough 63 = .ok (.invokevirtual 169, 3) := by decide +kernel
theorem dX9_enough_66 : decode cX9_enough 66 = .ok (.invokestatic 137, 3) := by decide +kernel
theorem dX9_enough_69 : decode cX9_enough 69 = .ok (.ifCond .ne 7, 3) := by decide +kernel
theorem dX9_enough_72 : decode cX9_enough 72 = .ok (.iload_n 3, 1) := by decide +kernel
theorem dX9_enough_73 : decode cX9_enough 73 = .ok (.goto 4, 3) := by decide +kernel
theorem dX9_enough_76 : decode cX9_enough 76 = .ok (.iload_n 2, 1) := by decide +kernel
theorem dX9_enough_77 : decode cX9_enough 77 = .ok (.istore_n 2, 1) := by decide +kernel
theorem dX9_enough_78 : decode cX9_enough 78 = .ok (.iinc 3 1, 3) := by decide +kernel
theorem dX9_enough_81 : decode cX9_enough 81 = .ok (.goto (-63), 3) := by decide +kernel
theorem dX9_enough_84 : decode cX9_enough 84 = .ok (.iload_n 2, 1) := by decide +kernel
theorem dX9_enough_85 : decode cX9_enough 85 = .ok (.ireturn, 1) := by decide +kernel
theorem dX9_layHand_0 : decode cX9_layHand 0 = .ok (.iconst 0, 1) := by decide +kernel
theorem dX9_layHand_1 : decode cX9_layHand 1 = .ok (.istore_n 1, 1) := by decide +kernel
theorem dX9_layHand_2 : decode cX9_layHand 2 = .ok (.iload_n 1, 1) := by decide +kernel
theorem dX9_layHand_3 : decode cX9_layHand 3 = .ok (.bipush 46, 2) := by decide +kernel
theorem dX9_layHand_5 : decode cX9_layHand 5 = .ok (.if_icmp .ge 21, 3) := by decide +kernel
theorem dX9_layHand_8 : decode cX9_layHand 8 = .ok (.aload_n 0, 1) := by decide +kernel
theorem dX9_layHand_9 : decode cX9_layHand 9 = .ok (.getfield 27, 3) := by decide +kernel
theorem dX9_layHand_12 : decode cX9_layHand 12 = .ok (.iload_n 1, 1) := by decide +kernel
theorem dX9_layHand_13 : decode cX9_layHand 13 = .ok (.aload_n 0, 1) := by decide +kernel
theorem dX9_layHand_14 : decode cX9_layHand 14 = .ok (.getfield 7, 3) := by decide +kernel
theorem dX9_layHand_17 : decode cX9_layHand 17 = .ok (.iload_n 1, 1) := by decide +kernel
theorem dX9_layHand_18 : decode cX9_layHand 18 = .ok (.iaload, 1) := by decide +kernel
theorem dX9_layHand_19 : decode cX9_layHand 19 = .ok (.iastore, 1) := by decide +kernel
theorem dX9_layHand_20 : decode cX9_layHand 20 = .ok (.iinc 1 1, 3) := by decide +kernel
theorem dX9_layHand_23 : decode cX9_layHand 23 = .ok (.goto (-21), 3) := by decide +kernel
theorem dX9_layHand_26 : decode cX9_layHand 26 = .ok (.return_, 1) := by decide +kernel
theorem dX9_place_0 : decode cX9_place 0 = .ok (.aload_n 0, 1) := by decide +kernel
theorem dX9_place_1 : decode cX9_place 1 = .ok (.iload_n 1, 1) := by decide +kernel
theorem dX9_place_2 : decode cX9_place 2 = .ok (.invokevirtual 153, 3) := by decide +kernel
theorem dX9_place_5 : decode cX9_place 5 = .ok (.ifCond .eq 20, 3) := by decide +kernel
theorem dX9_place_8 : decode cX9_place 8 = .ok (.iload_n 2, 1) := by decide +kernel
theorem dX9_place_9 : decode cX9_place 9 = .ok (.invokestatic 74, 3) := by decide +kernel
theorem dX9_place_12 : decode cX9_place 12 = .ok (.ifCond .eq 13, 3) := by decide +kernel
theorem dX9_place_15 : decode cX9_place 15 = .ok (.iload_n 3, 1) := by decide +kernel
theorem dX9_place_16 : decode cX9_place 16 = .ok (.i2l, 1) := by decide +kernel
theorem dX9_place_17 : decode cX9_place 17 = .ok (.lconst 0, 1) := by decide +kernel
theorem dX9_place_18 : decode cX9_place 18 = .ok (.lconst 1, 1) := by decide +kernel
theorem dX9_place_19 : decode cX9_place 19 = .ok (.invokestatic 59, 3) := by decide +kernel
theorem dX9_place_22 : decode cX9_place 22 = .ok (.ifCond .ne 10, 3) := by decide +kernel
theorem dX9_place_25 : decode cX9_place 25 = .ok (.aload_n 0, 1) := by decide +kernel
theorem dX9_place_26 : decode cX9_place 26 = .ok (.bipush (-2), 2) := by decide +kernel
theorem dX9_place_28 : decode cX9_place 28 = .ok (.invokevirtual 78, 3) := by decide +kernel
theorem dX9_place_31 : decode cX9_place 31 = .ok (.ireturn, 1) := by decide +kernel
theorem dX9_place_32 : decode cX9_place 32 = .ok (.iconst (-1), 1) := by decide +kernel
theorem dX9_place_33 : decode cX9_place 33 = .ok (.istore 4, 2) := by decide +kernel
theorem dX9_place_35 : decode cX9_place 35 = .ok (.ldc 186, 2) := by decide +kernel
theorem dX9_place_37 : decode cX9_place 37 = .ok (.istore 5, 2) := by decide +kernel
theorem dX9_place_39 : decode cX9_place 39 = .ok (.aload_n 0, 1) := by decide +kernel
theorem dX9_place_40 : decode cX9_place 40 = .ok (.invokevirtual 187, 3) := by decide +kernel
theorem dX9_place_43 : decode cX9_place 43 = .ok (.aload_n 0, 1) := by decide +kernel
theorem dX9_place_44 : decode cX9_place 44 = .ok (.getfield 27, 3) := by decide +kernel
theorem dX9_place_47 : decode cX9_place 47 = .ok (.bipush 25, 2) := by decide +kernel
theorem dX9_place_49 : decode cX9_place 49 = .ok (.iload_n 1, 1) := by decide +kernel
theorem dX9_place_50 : decode cX9_place 50 = .ok (.iadd, 1) := by decide +kernel
theorem dX9_place_51 : decode cX9_place 51 = .ok (.iconst 1, 1) := by decide +kernel
theorem dX9_place_52 : decode cX9_place 52 = .ok (.iastore, 1) := by decide +kernel
theorem dX9_place_53 : decode cX9_place 53 = .ok (.iconst 0, 1) := by decide +kernel
theorem dX9_place_54 : decode cX9_place 54 = .ok (.istore 6, 2) := by decide +kernel
theorem dX9_place_56 : decode cX9_place 56 = .ok (.iload 6, 2) := by decide +kernel
theorem dX9_place_58 : decode cX9_place 58 = .ok (.bipush 30, 2) := by decide +kernel
theorem dX9_place_60 : decode cX9_place 60 = .ok (.if_icmp .ge 76, 3) := by decide +kernel
theorem dX9_place_63 : decode cX9_place 63 = .ok (.aload_n 0, 1) := by decide +kernel
theorem dX9_place_64 : decode cX9_place 64 = .ok (.getfield 27, 3) := by decide +kernel
theorem dX9_place_67 : decode cX9_place 67 = .ok (.bipush 14, 2) := by decide +kernel
theorem dX9_place_69 : decode cX9_place 69 = .ok (.iload_n 1, 1) := by decide +kernel
theorem dX9_place_70 : decode cX9_place 70 = .ok (.iadd, 1) := by decide +kernel
theorem dX9_place_71 : decode cX9_place 71 = .ok (.iload 6, 2) := by decide +kernel
theorem dX9_place_73 : decode cX9_place 73 = .ok (.iastore, 1) := by decide +kernel
theorem dX9_place_74 : decode cX9_place 74 = .ok (.aload_n 0, 1) := by decide +kernel
theorem dX9_place_75 : decode cX9_place 75 = .ok (.getfield 27, 3) := by decide +kernel
theorem dX9_place_78 : decode cX9_place 78 = .ok (.iload_n 2, 1) := by decide +kernel
theorem dX9_place_79 : decode cX9_place 79 = .ok (.aload_n 0, 1) := by decide +kernel
theorem dX9_place_80 : decode cX9_place 80 = .ok (.getfield 27, 3) := by decide +kernel
theorem dX9_place_83 : decode cX9_place 83 = .ok (.invokestatic 133, 3) := by decide +kernel
theorem dX9_place_86 : decode cX9_place 86 = .ok (.aload_n 0, 1) := by decide +kernel
theorem dX9_place_87 : decode cX9_place 87 = .ok (.invokevirtual 169, 3) := by decide +kernel
theorem dX9_place_90 : decode cX9_place 90 = .ok (.invokestatic 137, 3) := by decide +kernel
theorem dX9_place_93 : decode cX9_place 93 = .ok (.invokestatic 183, 3) := by decide +kernel
theorem dX9_place_96 : decode cX9_place 96 = .ok (.istore 7, 2) := by decide +kernel
theorem dX9_place_98 : decode cX9_place 98 = .ok (.iload 7, 2) := by decide +kernel
theorem dX9_place_100 : decode cX9_place 100 = .ok (.iload 5, 2) := by decide +kernel
theorem dX9_place_102 : decode cX9_place 102 = .ok (.if_icmp .ge 8, 3) := by decide +kernel
theorem dX9_place_105 : decode cX9_place 105 = .ok (.iload 6, 2) := by decide +kernel
theorem dX9_place_107 : decode cX9_place 107 = .ok (.goto 5, 3) := by decide +kernel
theorem dX9_place_110 : decode cX9_place 110 = .ok (.iload 4, 2) := by decide +kernel
theorem dX9_place_112 : decode cX9_place 112 = .ok (.istore 4, 2) := by decide +kernel
theorem dX9_place_114 : decode cX9_place 114 = .ok (.iload 7, 2) := by decide +kernel
theorem dX9_place_116 : decode cX9_place 116 = .ok (.iload 5, 2) := by decide +kernel
theorem dX9_place_118 : decode cX9_place 118 = .ok (.if_icmp .ge 8, 3) := by decide +kernel
theorem dX9_place_121 : decode cX9_place 121 = .ok (.iload 7, 2) := by decide +kernel
theorem dX9_place_123 : decode cX9_place 123 = .ok (.goto 5, 3) := by decide +kernel
theorem dX9_place_126 : decode cX9_place 126 = .ok (.iload 5, 2) := by decide +kernel
theorem dX9_place_128 : decode cX9_place 128 = .ok (.istore 5, 2) := by decide +kernel
theorem dX9_place_130 : decode cX9_place 130 = .ok (.iinc 6 1, 3) := by decide +kernel
theorem dX9_place_133 : decode cX9_place 133 = .ok (.goto (-77), 3) := by decide +kernel
theorem dX9_place_136 : decode cX9_place 136 = .ok (.iload_n 3, 1) := by decide +kernel
theorem dX9_place_137 : decode cX9_place 137 = .ok (.ifCond .ne 8, 3) := by decide +kernel
theorem dX9_place_140 : decode cX9_place 140 = .ok (.iload 4, 2) := by decide +kernel
theorem dX9_place_142 : decode cX9_place 142 = .ok (.goto 5, 3) := by decide +kernel
theorem dX9_place_145 : decode cX9_place 145 = .ok (.iload 5, 2) := by decide +kernel
theorem dX9_place_147 : decode cX9_place 147 = .ok (.ireturn, 1) := by decide +kernel
theorem dX9_layGoals_0 : decode cX9_layGoals 0 = .ok (.iconst 0, 1) := by decide +kernel
theorem dX9_layGoals_1 : decode cX9_layGoals 1 = .ok (.istore_n 2, 1) := by decide +kernel
theorem dX9_layGoals_2 : decode cX9_layGoals 2 = .ok (.iload_n 1, 1) := by decide +kernel
theorem dX9_layGoals_3 : decode cX9_layGoals 3 = .ok (.istore_n 3, 1) := by decide +kernel
theorem dX9_layGoals_4 : decode cX9_layGoals 4 = .ok (.iload_n 3, 1) := by decide +kernel
theorem dX9_layGoals_5 : decode cX9_layGoals 5 = .ok (.ifCond .le 38, 3) := by decide +kernel
theorem dX9_layGoals_8 : decode cX9_layGoals 8 = .ok (.iload_n 2, 1) := by decide +kernel
theorem dX9_layGoals_9 : decode cX9_layGoals 9 = .ok (.iconst 4, 1) := by decide +kernel
theorem dX9_layGoals_10 : decode cX9_layGoals 10 = .ok (.if_icmp .eq 20, 3) := by decide +kernel
theorem dX9_layGoals_13 : decode cX9_layGoals 13 = .ok (.iload_n 3, 1) := by decide +kernel
theorem dX9_layGoals_14 : decode cX9_layGoals 14 = .ok (.bipush 100, 2) := by decide +kernel
theorem dX9_layGoals_16 : decode cX9_layGoals 16 = .ok (.irem, 1) := by decide +kernel
theorem dX9_layGoals_17 : decode cX9_layGoals 17 = .ok (.i2l, 1) := by decide +kernel
theorem dX9_layGoals_18 : decode cX9_layGoals 18 = .ok (.ldc2_w 68, 3) := by decide +kernel
theorem dX9_layGoals_21 : decode cX9_layGoals 21 = .ok (.ldc2_w 190, 3) := by decide +kernel
theorem dX9_layGoals_24 : decode cX9_layGoals 24 = .ok (.invokestatic 59, 3) := by decide +kernel
theorem dX9_layGoals_27 : decode cX9_layGoals 27 = .ok (.ifCond .ne 5, 3) := by decide +kernel
theorem dX9_layGoals_30 : decode cX9_layGoals 30 = .ok (.iconst (-1), 1) := by decide +kernel
theorem dX9_layGoals_31 : decode cX9_layGoals 31 = .ok (.ireturn, 1) := by decide +kernel
theorem dX9_layGoals_32 : decode cX9_layGoals 32 = .ok (.iinc 2 1, 3) := by decide +kernel
theorem dX9_layGoals_35 : decode cX9_layGoals 35 = .ok (.iload_n 3, 1) := by decide +kernel
theorem dX9_layGoals_36 : decode cX9_layGoals 36 = .ok (.bipush 100, 2) := by decide +kernel
theorem dX9_layGoals_38 : decode cX9_layGoals 38 = .ok (.idiv, 1) := by decide +kernel
theorem dX9_layGoals_39 : decode cX9_layGoals 39 = .ok (.istore_n 3, 1) := by decide +kernel
theorem dX9_layGoals_40 : decode cX9_layGoals 40 = .ok (.goto (-36), 3) := by decide +kernel
theorem dX9_layGoals_43 : decode cX9_layGoals 43 = .ok (.iload_n 1, 1) := by decide +kernel
theorem dX9_layGoals_44 : decode cX9_layGoals 44 = .ok (.istore_n 3, 1) := by decide +kernel
theorem dX9_layGoals_45 : decode cX9_layGoals 45 = .ok (.iload_n 2, 1) := by decide +kernel
theorem dX9_layGoals_46 : decode cX9_layGoals 46 = .ok (.iconst 1, 1) := by decide +kernel
theorem dX9_layGoals_47 : decode cX9_layGoals 47 = .ok (.isub, 1) := by decide +kernel
theorem dX9_layGoals_48 : decode cX9_layGoals 48 = .ok (.istore 4, 2) := by decide +kernel
theorem dX9_layGoals_50 : decode cX9_layGoals 50 = .ok (.iload 4, 2) := by decide +kernel
theorem dX9_layGoals_52 : decode cX9_layGoals 52 = .ok (.ifCond .lt 28, 3) := by decide +kernel
theorem dX9_layGoals_55 : decode cX9_layGoals 55 = .ok (.aload_n 0, 1) := by decide +kernel
theorem dX9_layGoals_56 : decode cX9_layGoals 56 = .ok (.getfield 30, 3) := by decide +kernel
theorem dX9_layGoals_59 : decode cX9_layGoals 59 = .ok (.iload 4, 2) := by decide +kernel
theorem dX9_layGoals_61 : decode cX9_layGoals 61 = .ok (.iload_n 3, 1) := by decide +kernel
theorem dX9_layGoals_62 : decode cX9_layGoals 62 = .ok (.bipush 100, 2) := by decide +kernel
theorem dX9_layGoals_64 : decode cX9_layGoals 64 = .ok (.irem, 1) := by decide +kernel
theorem dX9_layGoals_65 : decode cX9_layGoals 65 = .ok (.bipush 11, 2) := by decide +kernel
theorem dX9_layGoals_67 : decode cX9_layGoals 67 = .ok (.isub, 1) := by decide +kernel
theorem dX9_layGoals_68 : decode cX9_layGoals 68 = .ok (.iastore, 1) := by decide +kernel
theorem dX9_layGoals_69 : decode cX9_layGoals 69 = .ok (.iload_n 3, 1) := by decide +kernel
theorem dX9_layGoals_70 : decode cX9_layGoals 70 = .ok (.bipush 100, 2) := by decide +kernel
theorem dX9_layGoals_72 : decode cX9_layGoals 72 = .ok (.idiv, 1) := by decide +kernel
theorem dX9_layGoals_73 : decode cX9_layGoals 73 = .ok (.istore_n 3, 1) := by decide +kernel
theorem dX9_layGoals_74 : decode cX9_layGoals 74 = .ok (.iinc 4 (-1), 3) := by decide +kernel
theorem dX9_layGoals_77 : decode cX9_layGoals 77 = .ok (.goto (-27), 3) := by decide +kernel
theorem dX9_layGoals_80 : decode cX9_layGoals 80 = .ok (.iload_n 2, 1) := by decide +kernel
theorem dX9_layGoals_81 : decode cX9_layGoals 81 = .ok (.ifCond .ne 7, 3) := by decide +kernel
theorem dX9_layGoals_84 : decode cX9_layGoals 84 = .ok (.iconst (-1), 1) := by decide +kernel
theorem dX9_layGoals_85 : decode cX9_layGoals 85 = .ok (.goto 4, 3) := by decide +kernel
theorem dX9_layGoals_88 : decode cX9_layGoals 88 = .ok (.iload_n 2, 1) := by decide +kernel
theorem dX9_layGoals_89 : decode cX9_layGoals 89 = .ok (.ireturn, 1) := by decide +kernel
theorem dX9_lastBy_0 : decode cX9_lastBy 0 = .ok (.iload_n 1, 1) := by decide +kernel
theorem dX9_lastBy_1 : decode cX9_lastBy 1 = .ok (.istore_n 3, 1) := by decide +kernel
theorem dX9_lastBy_2 : decode cX9_lastBy 2 = .ok (.iconst 0, 1) := by decide +kernel
theorem dX9_lastBy_3 : decode cX9_lastBy 3 = .ok (.istore 4, 2) := by decide +kernel
theorem dX9_lastBy_5 : decode cX9_lastBy 5 = .ok (.iload_n 2, 1) := by decide +kernel
theorem dX9_lastBy_6 : decode cX9_lastBy 6 = .ok (.iconst 1, 1) := by decide +kernel
theorem dX9_lastBy_7 : decode cX9_lastBy 7 = .ok (.isub, 1) := by decide +kernel
theorem dX9_lastBy_8 : decode cX9_lastBy 8 = .ok (.istore 5, 2) := by decide +kernel
theorem dX9_lastBy_10 : decode cX9_lastBy 10 = .ok (.iload 5, 2) := by decide +kernel
theorem dX9_lastBy_12 : decode cX9_lastBy 12 = .ok (.ifCond .lt 101, 3) := by decide +kernel
theorem dX9_lastBy_15 : decode cX9_lastBy 15 = .ok (.iload_n 3, 1) := by decide +kernel
theorem dX9_lastBy_16 : decode cX9_lastBy 16 = .ok (.bipush 24, 2) := by decide +kernel
theorem dX9_lastBy_18 : decode cX9_lastBy 18 = .ok (.irem, 1) := by decide +kernel
theorem dX9_lastBy_19 : decode cX9_lastBy 19 = .ok (.istore 6, 2) := by decide +kernel
theorem dX9_lastBy_21 : decode cX9_lastBy 21 = .ok (.iload_n 3, 1) := by decide +kernel
theorem dX9_lastBy_22 : decode cX9_lastBy 22 = .ok (.bipush 24, 2) := by decide +kernel
theorem dX9_lastBy_24 : decode cX9_lastBy 24 = .ok (.idiv, 1) := by decide +kernel
theorem dX9_lastBy_25 : decode cX9_lastBy 25 = .ok (.istore_n 3, 1) := by decide +kernel
theorem dX9_lastBy_26 : decode cX9_lastBy 26 = .ok (.iload 5, 2) := by decide +kernel
theorem dX9_lastBy_28 : decode cX9_lastBy 28 = .ok (.iconst 1, 1) := by decide +kernel
theorem dX9_lastBy_29 : decode cX9_lastBy 29 = .ok (.iadd, 1) := by decide +kernel
theorem dX9_lastBy_30 : decode cX9_lastBy 30 = .ok (.istore 7, 2) := by decide +kernel
theorem dX9_lastBy_32 : decode cX9_lastBy 32 = .ok (.iload 7, 2) := by decide +kernel
theorem dX9_lastBy_34 : decode cX9_lastBy 34 = .ok (.iload_n 2, 1) := by decide +kernel
theorem dX9_lastBy_35 : decode cX9_lastBy 35 = .ok (.if_icmp .ge 24, 3) := by decide +kernel
theorem dX9_lastBy_38 : decode cX9_lastBy 38 = .ok (.aload_n 0, 1) := by decide +kernel
theorem dX9_lastBy_39 : decode cX9_lastBy 39 = .ok (.getfield 36, 3) := by decide +kernel
theorem dX9_lastBy_42 : decode cX9_lastBy 42 = .ok (.iload 7, 2) := by decide +kernel
theorem dX9_lastBy_44 : decode cX9_lastBy 44 = .ok (.iaload, 1) := by decide +kernel
theorem dX9_lastBy_45 : decode cX9_lastBy 45 = .ok (.iload 6, 2) := by decide +kernel
theorem dX9_lastBy_47 : decode cX9_lastBy 47 = .ok (.if_icmp .ne 6, 3) := by decide +kernel
theorem dX9_lastBy_50 : decode cX9_lastBy 50 = .ok (.ldc 186, 2) := by decide +kernel
theorem dX9_lastBy_52 : decode cX9_lastBy 52 = .ok (.ireturn, 1) := by decide +kernel
theorem dX9_lastBy_53 : decode cX9_lastBy 53 = .ok (.iinc 7 1, 3) := by decide +kernel
theorem dX9_lastBy_56 : decode cX9_lastBy 56 = .ok (.goto (-24), 3) := by decide +kernel
theorem dX9_lastBy_59 : decode cX9_lastBy 59 = .ok (.aload_n 0, 1) := by decide +kernel
theorem dX9_lastBy_60 : decode cX9_lastBy 60 = .ok (.getfield 33, 3) := by decide +kernel
theorem dX9_lastBy_63 : decode cX9_lastBy 63 = .ok (.bipush 24, 2) := by decide +kernel
theorem dX9_lastBy_65 : decode cX9_lastBy 65 = .ok (.iload 5, 2) := by decide +kernel
theorem dX9_lastBy_67 : decode cX9_lastBy 67 = .ok (.imul, 1) := by decide +kernel
theorem dX9_lastBy_68 : decode cX9_lastBy 68 = .ok (.iload 6, 2) := by decide +kernel
theorem dX9_lastBy_70 : decode cX9_lastBy 70 = .ok (.iadd, 1) := by decide +kernel
theorem dX9_lastBy_71 : decode cX9_lastBy 71 = .ok (.baload, 1) := by decide +kernel
theorem dX9_lastBy_72 : decode cX9_lastBy 72 = .ok (.ifCond .ne 6, 3) := by decide +kernel
theorem dX9_lastBy_75 : decode cX9_lastBy 75 = .ok (.ldc 186, 2) := by decide +kernel
theorem dX9_lastBy_77 : decode cX9_lastBy 77 = .ok (.ireturn, 1) := by decide +kernel
theorem dX9_lastBy_78 : decode cX9_lastBy 78 = .ok (.aload_n 0, 1) := by decide +kernel
theorem dX9_lastBy_79 : decode cX9_lastBy 79 = .ok (.getfield 36, 3) := by decide +kernel
theorem dX9_lastBy_82 : decode cX9_lastBy 82 = .ok (.iload 5, 2) := by decide +kernel
theorem dX9_lastBy_84 : decode cX9_lastBy 84 = .ok (.iload 6, 2) := by decide +kernel
theorem dX9_lastBy_86 : decode cX9_lastBy 86 = .ok (.iastore, 1) := by decide +kernel
theorem dX9_lastBy_87 : decode cX9_lastBy 87 = .ok (.iload 6, 2) := by decide +kernel
theorem dX9_lastBy_89 : decode cX9_lastBy 89 = .ok (.iconst 1, 1) := by decide +kernel
theorem dX9_lastBy_90 : decode cX9_lastBy 90 = .ok (.iadd, 1) := by decide +kernel
theorem dX9_lastBy_91 : decode cX9_lastBy 91 = .ok (.iload 4, 2) := by decide +kernel
theorem dX9_lastBy_93 : decode cX9_lastBy 93 = .ok (.if_icmp .le 10, 3) := by decide +kernel
theorem dX9_lastBy_96 : decode cX9_lastBy 96 = .ok (.iload 6, 2) := by decide +kernel
theorem dX9_lastBy_98 : decode cX9_lastBy 98 = .ok (.iconst 1, 1) := by decide +kernel
theorem dX9_lastBy_99 : decode cX9_lastBy 99 = .ok (.iadd, 1) := by decide +kernel
theorem dX9_lastBy_100 : decode cX9_lastBy 100 = .ok (.goto 5, 3) := by decide +kernel
theorem dX9_lastBy_103 : decode cX9_lastBy 103 = .ok (.iload 4, 2) := by decide +kernel
theorem dX9_lastBy_105 : decode cX9_lastBy 105 = .ok (.istore 4, 2) := by decide +kernel
theorem dX9_lastBy_107 : decode cX9_lastBy 107 = .ok (.iinc 5 (-1), 3) := by decide +kernel
theorem dX9_lastBy_110 : decode cX9_lastBy 110 = .ok (.goto (-100), 3) := by decide +kernel
theorem dX9_lastBy_113 : decode cX9_lastBy 113 = .ok (.iload 4, 2) := by decide +kernel
theorem dX9_lastBy_115 : decode cX9_lastBy 115 = .ok (.ireturn, 1) := by decide +kernel
theorem dX9_plan_0 : decode cX9_plan 0 = .ok (.aload_n 0, 1) := by decide +kernel
theorem dX9_plan_1 : decode cX9_plan 1 = .ok (.iload_n 1, 1) := by decide +kernel
theorem dX9_plan_2 : decode cX9_plan 2 = .ok (.invokevirtual 192, 3) := by decide +kernel
theorem dX9_plan_5 : decode cX9_plan 5 = .ok (.istore_n 3, 1) := by decide +kernel
theorem dX9_plan_6 : decode cX9_plan 6 = .ok (.iload_n 3, 1) := by decide +kernel
theorem dX9_plan_7 : decode cX9_plan 7 = .ok (.iconst (-1), 1) := by decide +kernel
theorem dX9_plan_8 : decode cX9_plan 8 = .ok (.if_icmp .eq 8, 3) := by decide +kernel
theorem dX9_plan_11 : decode cX9_plan 11 = .ok (.iload_n 2, 1) := by decide +kernel
theorem dX9_plan_12 : decode cX9_plan 12 = .ok (.iconst (-1), 1) := by decide +kernel
theorem dX9_plan_13 : decode cX9_plan 13 = .ok (.if_icmp .ge 10, 3) := by decide +kernel
theorem dX9_plan_16 : decode cX9_plan 16 = .ok (.aload_n 0, 1) := by decide +kernel
theorem dX9_plan_17 : decode cX9_plan 17 = .ok (.bipush (-10), 2) := by decide +kernel
theorem dX9_plan_19 : decode cX9_plan 19 = .ok (.invokevirtual 78, 3) := by decide +kernel
theorem dX9_plan_22 : decode cX9_plan 22 = .ok (.ireturn, 1) := by decide +kernel
theorem dX9_plan_23 : decode cX9_plan 23 = .ok (.iconst 1, 1) := by decide +kernel
theorem dX9_plan_24 : decode cX9_plan 24 = .ok (.istore 4, 2) := by decide +kernel
theorem dX9_plan_26 : decode cX9_plan 26 = .ok (.iconst 0, 1) := by decide +kernel
theorem dX9_plan_27 : decode cX9_plan 27 = .ok (.istore 5, 2) := by decide +kernel
theorem dX9_plan_29 : decode cX9_plan 29 = .ok (.iload 5, 2) := by decide +kernel
theorem dX9_plan_31 : decode cX9_plan 31 = .ok (.iload_n 3, 1) := by decide +kernel
theorem dX9_plan_32 : decode cX9_plan 32 = .ok (.if_icmp .ge 58, 3) := by decide +kernel
theorem dX9_plan_35 : decode cX9_plan 35 = .ok (.iload 4, 2) := by decide +kernel
theorem dX9_plan_37 : decode cX9_plan 37 = .ok (.bipush 24, 2) := by decide +kernel
theorem dX9_plan_39 : decode cX9_plan 39 = .ok (.imul, 1) := by decide +kernel
theorem dX9_plan_40 : decode cX9_plan 40 = .ok (.istore 4, 2) := by decide +kernel
theorem dX9_plan_42 : decode cX9_plan 42 = .ok (.iconst 0, 1) := by decide +kernel
theorem dX9_plan_43 : decode cX9_plan 43 = .ok (.istore 6, 2) := by decide +kernel
theorem dX9_plan_45 : decode cX9_plan 45 = .ok (.iload 6, 2) := by decide +kernel
theorem dX9_plan_47 : decode cX9_plan 47 = .ok (.bipush 24, 2) := by decide +kernel
theorem dX9_plan_49 : decode cX9_plan 49 = .ok (.if_icmp .ge 35, 3) := by decide +kernel
theorem dX9_plan_52 : decode cX9_plan 52 = .ok (.aload_n 0, 1) := by decide +kernel
theorem dX9_plan_53 : decode cX9_plan 53 = .ok (.getfield 33, 3) := by decide +kernel
theorem dX9_plan_56 : decode cX9_plan 56 = .ok (.bipush 24, 2) := by decide +kernel
theorem dX9_plan_58 : decode cX9_plan 58 = .ok (.iload 5, 2) := by decide +kernel
theorem dX9_plan_60 : decode cX9_plan 60 = .ok (.imul, 1) := by decide +kernel
theorem dX9_plan_61 : decode cX9_plan 61 = .ok (.iload 6, 2) := by decide +kernel
theorem dX9_plan_63 : decode cX9_plan 63 = .ok (.iadd, 1) := by decide +kernel
theorem dX9_plan_64 : decode cX9_plan 64 = .ok (.aload_n 0, 1) := by decide +kernel
theorem dX9_plan_65 : decode cX9_plan 65 = .ok (.aload_n 0, 1) := by decide +kernel
theorem dX9_plan_66 : decode cX9_plan 66 = .ok (.getfield 30, 3) := by decide +kernel
theorem dX9_plan_69 : decode cX9_plan 69 = .ok (.iload 5, 2) := by decide +kernel
theorem dX9_plan_71 : decode cX9_plan 71 = .ok (.iaload, 1) := by decide +kernel
theorem dX9_plan_72 : decode cX9_plan 72 = .ok (.iload 6, 2) := by decide +kernel
theorem dX9_plan_74 : decode cX9_plan 74 = .ok (.invokevirtual 180, 3) := by decide +kernel
theorem dX9_plan_77 : decode cX9_plan 77 = .ok (.bastore, 1) := by decide +kernel
theorem dX9_plan_78 : decode cX9_plan 78 = .ok (.iinc 6 1, 3) := by decide +kernel
theorem dX9_plan_81 : decode cX9_plan 81 = .ok (.goto (-36), 3) := by decide +kernel
theorem dX9_plan_84 : decode cX9_plan 84 = .ok (.iinc 5 1, 3) := by decide +kernel
theorem dX9_plan_87 : decode cX9_plan 87 = .ok (.goto (-58), 3) := by decide +kernel
theorem dX9_plan_90 : decode cX9_plan 90 = .ok (.ldc 186, 2) := by decide +kernel
theorem dX9_plan_92 : decode cX9_plan 92 = .ok (.istore 5, 2) := by decide +kernel
theorem dX9_plan_94 : decode cX9_plan 94 = .ok (.iconst 0, 1) := by decide +kernel
theorem dX9_plan_95 : decode cX9_plan 95 = .ok (.istore 6, 2) := by decide +kernel
theorem dX9_plan_97 : decode cX9_plan 97 = .ok (.iload 6, 2) := by decide +kernel
theorem dX9_plan_99 : decode cX9_plan 99 = .ok (.iload 4, 2) := by decide +kernel
theorem dX9_plan_101 : decode cX9_plan 101 = .ok (.if_icmp .ge 70, 3) := by decide +kernel
theorem dX9_plan_104 : decode cX9_plan 104 = .ok (.aload_n 0, 1) := by decide +kernel
theorem dX9_plan_105 : decode cX9_plan 105 = .ok (.iload 6, 2) := by decide +kernel
theorem dX9_plan_107 : decode cX9_plan 107 = .ok (.iload_n 3, 1) := by decide +kernel
theorem dX9_plan_108 : decode cX9_plan 108 = .ok (.invokevirtual 195, 3) := by decide +kernel
theorem dX9_plan_111 : decode cX9_plan 111 = .ok (.istore 7, 2) := by decide +kernel
theorem dX9_plan_113 : decode cX9_plan 113 = .ok (.iconst 0, 1) := by decide +kernel
theorem dX9_plan_114 : decode cX9_plan 114 = .ok (.istore 8, 2) := by decide +kernel
theorem dX9_plan_116 : decode cX9_plan 116 = .ok (.iload 8, 2) := by decide +kernel
theorem dX9_plan_118 : decode cX9_plan 118 = .ok (.iload_n 3, 1) := by decide +kernel
theorem dX9_plan_119 : decode cX9_plan 119 = .ok (.if_icmp .ge 30, 3) := by decide +kernel
theorem dX9_plan_122 : decode cX9_plan 122 = .ok (.iload 7, 2) := by decide +kernel
theorem dX9_plan_124 : decode cX9_plan 124 = .ok (.iload 5, 2) := by decide +kernel
theorem dX9_plan_126 : decode cX9_plan 126 = .ok (.if_icmp .ge 23, 3) := by decide +kernel
theorem dX9_plan_129 : decode cX9_plan 129 = .ok (.aload_n 0, 1) := by decide +kernel
theorem dX9_plan_130 : decode cX9_plan 130 = .ok (.getfield 39, 3) := by decide +kernel
theorem dX9_plan_133 : decode cX9_plan 133 = .ok (.iload 8, 2) := by decide +kernel
theorem dX9_plan_135 : decode cX9_plan 135 = .ok (.aload_n 0, 1) := by decide +kernel
theorem dX9_plan_136 : decode cX9_plan 136 = .ok (.getfield 36, 3) := by decide +kernel
theorem dX9_plan_139 : decode cX9_plan 139 = .ok (.iload 8, 2) := by decide +kernel
theorem dX9_plan_141 : decode cX9_plan 141 = .ok (.iaload, 1) := by decide +kernel
theorem dX9_plan_142 : decode cX9_plan 142 = .ok (.iastore, 1) := by decide +kernel
theorem dX9_plan_143 : decode cX9_plan 143 = .ok (.iinc 8 1, 3) := by decide +kernel
theorem dX9_plan_146 : decode cX9_plan 146 = .ok (.goto (-30), 3) := by decide +kernel
theorem dX9_plan_149 : decode cX9_plan 149 = .ok (.iload 7, 2) := by decide +kernel
theorem dX9_plan_151 : decode cX9_plan 151 = .ok (.iload 5, 2) := by decide +kernel
theorem dX9_plan_153 : decode cX9_plan 153 = .ok (.if_icmp .ge 8, 3) := by decide +kernel
theorem dX9_plan_156 : decode cX9_plan 156 = .ok (.iload 7, 2) := by decide +kernel
theorem dX9_plan_158 : decode cX9_plan 158 = .ok (.goto 5, 3) := by decide +kernel
theorem dX9_plan_161 : decode cX9_plan 161 = .ok (.iload 5, 2) := by decide +kernel
theorem dX9_plan_163 : decode cX9_plan 163 = .ok (.istore 5, 2) := by decide +kernel
theorem dX9_plan_165 : decode cX9_plan 165 = .ok (.iinc 6 1, 3) := by decide +kernel
theorem dX9_plan_168 : decode cX9_plan 168 = .ok (.goto (-71), 3) := by decide +kernel
theorem dX9_plan_171 : decode cX9_plan 171 = .ok (.iload 5, 2) := by decide +kernel
theorem dX9_plan_173 : decode cX9_plan 173 = .ok (.ldc 186, 2) := by decide +kernel
theorem dX9_plan_175 : decode cX9_plan 175 = .ok (.if_icmp .ne 7, 3) := by decide +kernel
theorem dX9_plan_178 : decode cX9_plan 178 = .ok (.iconst (-1), 1) := by decide +kernel
theorem dX9_plan_179 : decode cX9_plan 179 = .ok (.goto 29, 3) := by decide +kernel
theorem dX9_plan_182 : decode cX9_plan 182 = .ok (.iload_n 2, 1) := by decide +kernel
theorem dX9_plan_183 : decode cX9_plan 183 = .ok (.iconst (-1), 1) := by decide +kernel
theorem dX9_plan_184 : decode cX9_plan 184 = .ok (.if_icmp .ne 8, 3) := by decide +kernel
theorem dX9_plan_187 : decode cX9_plan 187 = .ok (.iload 5, 2) := by decide +kernel
theorem dX9_plan_189 : decode cX9_plan 189 = .ok (.goto 19, 3) := by decide +kernel
theorem dX9_plan_192 : decode cX9_plan 192 = .ok (.iload_n 2, 1) := by decide +kernel
theorem dX9_plan_193 : decode cX9_plan 193 = .ok (.iload_n 3, 1) := by decide +kernel
theorem dX9_plan_194 : decode cX9_plan 194 = .ok (.if_icmp .ge 12, 3) := by decide +kernel
theorem dX9_plan_197 : decode cX9_plan 197 = .ok (.aload_n 0, 1) := by decide +kernel
theorem dX9_plan_198 : decode cX9_plan 198 = .ok (.getfield 39, 3) := by decide +kernel
theorem dX9_plan_201 : decode cX9_plan 201 = .ok (.iload_n 2, 1) := by decide +kernel
theorem dX9_plan_202 : decode cX9_plan 202 = .ok (.iaload, 1) := by decide +kernel
theorem dX9_plan_203 : decode cX9_plan 203 = .ok (.goto 5, 3) := by decide +kernel
theorem dX9_plan_206 : decode cX9_plan 206 = .ok (.bipush (-5), 2) := by decide +kernel
theorem dX9_plan_208 : decode cX9_plan 208 = .ok (.ireturn, 1) := by decide +kernel
theorem dX9_guard_0 : decode cX9_guard 0 = .ok (.aload_n 0, 1) := by decide +kernel
theorem dX9_guard_1 : decode cX9_guard 1 = .ok (.iload_n 1, 1) := by decide +kernel
theorem dX9_guard_2 : decode cX9_guard 2 = .ok (.invokevirtual 159, 3) := by decide +kernel
theorem dX9_guard_5 : decode cX9_guard 5 = .ok (.ifCond .eq 13, 3) := by decide +kernel
theorem dX9_guard_8 : decode cX9_guard 8 = .ok (.iload_n 2, 1) := by decide +kernel
theorem dX9_guard_9 : decode cX9_guard 9 = .ok (.i2l, 1) := by decide +kernel
theorem dX9_guard_10 : decode cX9_guard 10 = .ok (.lconst 0, 1) := by decide +kernel
theorem dX9_guard_11 : decode cX9_guard 11 = .ok (.lconst 1, 1) := by decide +kernel
theorem dX9_guard_12 : decode cX9_guard 12 = .ok (.invokestatic 59, 3) := by decide +kernel
theorem dX9_guard_15 : decode cX9_guard 15 = .ok (.ifCond .ne 10, 3) := by decide +kernel
theorem dX9_guard_18 : decode cX9_guard 18 = .ok (.aload_n 0, 1) := by decide +kernel
theorem dX9_guard_19 : decode cX9_guard 19 = .ok (.bipush (-2), 2) := by decide +kernel
theorem dX9_guard_21 : decode cX9_guard 21 = .ok (.invokevirtual 78, 3) := by decide +kernel
theorem dX9_guard_24 : decode cX9_guard 24 = .ok (.ireturn, 1) := by decide +kernel
theorem dX9_guard_25 : decode cX9_guard 25 = .ok (.iconst (-1), 1) := by decide +kernel
theorem dX9_guard_26 : decode cX9_guard 26 = .ok (.istore_n 3, 1) := by decide +kernel
theorem dX9_guard_27 : decode cX9_guard 27 = .ok (.iconst (-1), 1) := by decide +kernel
theorem dX9_guard_28 : decode cX9_guard 28 = .ok (.istore 4, 2) := by decide +kernel
theorem dX9_guard_30 : decode cX9_guard 30 = .ok (.iconst 0, 1) := by decide +kernel
theorem dX9_guard_31 : decode cX9_guard 31 = .ok (.istore 5, 2) := by decide +kernel
theorem dX9_guard_33 : decode cX9_guard 33 = .ok (.iload 5, 2) := by decide +kernel
theorem dX9_guard_35 : decode cX9_guard 35 = .ok (.bipush 30, 2) := by decide +kernel
theorem dX9_guard_37 : decode cX9_guard 37 = .ok (.if_icmp .ge 102, 3) := by decide +kernel
theorem dX9_guard_40 : decode cX9_guard 40 = .ok (.iconst 0, 1) := by decide +kernel
theorem dX9_guard_41 : decode cX9_guard 41 = .ok (.istore 6, 2) := by decide +kernel
theorem dX9_guard_43 : decode cX9_guard 43 = .ok (.iconst 0, 1) := by decide +kernel
theorem dX9_guard_44 : decode cX9_guard 44 = .ok (.istore 7, 2) := by decide +kernel
theorem dX9_guard_46 : decode cX9_guard 46 = .ok (.iload 7, 2) := by decide +kernel
theorem dX9_guard_48 : decode cX9_guard 48 = .ok (.bipush 30, 2) := by decide +kernel
theorem dX9_guard_50 : decode cX9_guard 50 = .ok (.if_icmp .ge 53, 3) := by decide +kernel
theorem dX9_guard_53 : decode cX9_guard 53 = .ok (.iload 6, 2) := by decide +kernel
theorem dX9_guard_55 : decode cX9_guard 55 = .ok (.aload_n 0, 1) := by decide +kernel
theorem dX9_guard_56 : decode cX9_guard 56 = .ok (.getfield 7, 3) := by decide +kernel
theorem dX9_guard_59 : decode cX9_guard 59 = .ok (.aload_n 0, 1) := by decide +kernel
theorem dX9_guard_60 : decode cX9_guard 60 = .ok (.getfield 7, 3) := by decide +kernel
theorem dX9_guard_63 : decode cX9_guard 63 = .ok (.bipush 40, 2) := by decide +kernel
theorem dX9_guard_65 : decode cX9_guard 65 = .ok (.iload_n 1, 1) := by decide +kernel
theorem dX9_guard_66 : decode cX9_guard 66 = .ok (.iadd, 1) := by decide +kernel
theorem dX9_guard_67 : decode cX9_guard 67 = .ok (.iaload, 1) := by decide +kernel
theorem dX9_guard_68 : decode cX9_guard 68 = .ok (.iload 5, 2) := by decide +kernel
theorem dX9_guard_70 : decode cX9_guard 70 = .ok (.iload 7, 2) := by decide +kernel
theorem dX9_guard_72 : decode cX9_guard 72 = .ok (.aload_n 0, 1) := by decide +kernel
theorem dX9_guard_73 : decode cX9_guard 73 = .ok (.getfield 7, 3) := by decide +kernel
theorem dX9_guard_76 : decode cX9_guard 76 = .ok (.invokestatic 133, 3) := by decide +kernel
theorem dX9_guard_79 : decode cX9_guard 79 = .ok (.aload_n 0, 1) := by decide +kernel
theorem dX9_guard_80 : decode cX9_guard 80 = .ok (.invokevirtual 169, 3) := by decide +kernel
theorem dX9_guard_83 : decode cX9_guard 83 = .ok (.invokestatic 129, 3) := by decide +kernel
theorem dX9_guard_86 : decode cX9_guard 86 = .ok (.ifCond .eq 7, 3) := by decide +kernel
theorem dX9_guard_89 : decode cX9_guard 89 = .ok (.iconst 1, 1) := by decide +kernel
theorem dX9_guard_90 : decode cX9_guard 90 = .ok (.goto 4, 3) := by decide +kernel
theorem dX9_guard_93 : decode cX9_guard 93 = .ok (.iconst 0, 1) := by decide +kernel
theorem dX9_guard_94 : decode cX9_guard 94 = .ok (.iadd, 1) := by decide +kernel
theorem dX9_guard_95 : decode cX9_guard 95 = .ok (.istore 6, 2) := by decide +kernel
theorem dX9_guard_97 : decode cX9_guard 97 = .ok (.iinc 7 1, 3) := by decide +kernel
theorem dX9_guard_100 : decode cX9_guard 100 = .ok (.goto (-54), 3) := by decide +kernel
theorem dX9_guard_103 : decode cX9_guard 103 = .ok (.iload 6, 2) := by decide +kernel
theorem dX9_guard_105 : decode cX9_guard 105 = .ok (.iload 4, 2) := by decide +kernel
theorem dX9_guard_107 : decode cX9_guard 107 = .ok (.if_icmp .le 8, 3) := by decide +kernel
theorem dX9_guard_110 : decode cX9_guard 110 = .ok (.iload 5, 2) := by decide +kernel
theorem dX9_guard_112 : decode cX9_guard 112 = .ok (.goto 4, 3) := by decide +kernel
theorem dX9_guard_115 : decode cX9_guard 115 = .ok (.iload_n 3, 1) := by decide +kernel
theorem dX9_guard_116 : decode cX9_guard 116 = .ok (.istore_n 3, 1) := by decide +kernel
theorem dX9_guard_117 : decode cX9_guard 117 = .ok (.iload 6, 2) := by decide +kernel
theorem dX9_guard_119 : decode cX9_guard 119 = .ok (.iload 4, 2) := by decide +kernel
theorem dX9_guard_121 : decode cX9_guard 121 = .ok (.if_icmp .le 8, 3) := by decide +kernel
theorem dX9_guard_124 : decode cX9_guard 124 = .ok (.iload 6, 2) := by decide +kernel
theorem dX9_guard_126 : decode cX9_guard 126 = .ok (.goto 5, 3) := by decide +kernel
theorem dX9_guard_129 : decode cX9_guard 129 = .ok (.iload 4, 2) := by decide +kernel
theorem dX9_guard_131 : decode cX9_guard 131 = .ok (.istore 4, 2) := by decide +kernel
theorem dX9_guard_133 : decode cX9_guard 133 = .ok (.iinc 5 1, 3) := by decide +kernel
theorem dX9_guard_136 : decode cX9_guard 136 = .ok (.goto (-103), 3) := by decide +kernel
theorem dX9_guard_139 : decode cX9_guard 139 = .ok (.iload_n 2, 1) := by decide +kernel
theorem dX9_guard_140 : decode cX9_guard 140 = .ok (.ifCond .ne 7, 3) := by decide +kernel
theorem dX9_guard_143 : decode cX9_guard 143 = .ok (.iload_n 3, 1) := by decide +kernel
theorem dX9_guard_144 : decode cX9_guard 144 = .ok (.goto 5, 3) := by decide +kernel
theorem dX9_guard_147 : decode cX9_guard 147 = .ok (.iload 4, 2) := by decide +kernel
theorem dX9_guard_149 : decode cX9_guard 149 = .ok (.ireturn, 1) := by decide +kernel
theorem dX9_saw_0 : decode cX9_saw 0 = .ok (.iload_n 1, 1) := by decide +kernel
theorem dX9_saw_1 : decode cX9_saw 1 = .ok (.invokestatic 177, 3) := by decide +kernel
theorem dX9_saw_4 : decode cX9_saw 4 = .ok (.ifCond .eq 21, 3) := by decide +kernel
theorem dX9_saw_7 : decode cX9_saw 7 = .ok (.iload_n 2, 1) := by decide +kernel
theorem dX9_saw_8 : decode cX9_saw 8 = .ok (.i2l, 1) := by decide +kernel
theorem dX9_saw_9 : decode cX9_saw 9 = .ok (.lconst 0, 1) := by decide +kernel
theorem dX9_saw_10 : decode cX9_saw 10 = .ok (.iconst 1, 1) := by decide +kernel
theorem dX9_saw_11 : decode cX9_saw 11 = .ok (.aload_n 0, 1) := by decide +kernel
theorem dX9_saw_12 : decode cX9_saw 12 = .ok (.invokevirtual 63, 3) := by decide +kernel
theorem dX9_saw_15 : decode cX9_saw 15 = .ok (.ishl, 1) := by decide +kernel
theorem dX9_saw_16 : decode cX9_saw 16 = .ok (.iconst 1, 1) := by decide +kernel
theorem dX9_saw_17 : decode cX9_saw 17 = .ok (.isub, 1) := by decide +kernel
theorem dX9_saw_18 : decode cX9_saw 18 = .ok (.i2l, 1) := by decide +kernel
theorem dX9_saw_19 : decode cX9_saw 19 = .ok (.invokestatic 59, 3) := by decide +kernel
theorem dX9_saw_22 : decode cX9_saw 22 = .ok (.ifCond .ne 10, 3) := by decide +kernel
theorem dX9_saw_25 : decode cX9_saw 25 = .ok (.aload_n 0, 1) := by decide +kernel
theorem dX9_saw_26 : decode cX9_saw 26 = .ok (.bipush (-2), 2) := by decide +kernel
theorem dX9_saw_28 : decode cX9_saw 28 = .ok (.invokevirtual 78, 3) := by decide +kernel
theorem dX9_saw_31 : decode cX9_saw 31 = .ok (.ireturn, 1) := by decide +kernel
theorem dX9_saw_32 : decode cX9_saw 32 = .ok (.aload_n 0, 1) := by decide +kernel
theorem dX9_saw_33 : decode cX9_saw 33 = .ok (.getfield 7, 3) := by decide +kernel
theorem dX9_saw_36 : decode cX9_saw 36 = .ok (.iconst 2, 1) := by decide +kernel
theorem dX9_saw_37 : decode cX9_saw 37 = .ok (.iaload, 1) := by decide +kernel
theorem dX9_saw_38 : decode cX9_saw 38 = .ok (.bipush 6, 2) := by decide +kernel
theorem dX9_saw_40 : decode cX9_saw 40 = .ok (.if_icmp .ne 8, 3) := by decide +kernel
theorem dX9_saw_43 : decode cX9_saw 43 = .ok (.aload_n 0, 1) := by decide +kernel
theorem dX9_saw_44 : decode cX9_saw 44 = .ok (.invokevirtual 82, 3) := by decide +kernel
theorem dX9_saw_47 : decode cX9_saw 47 = .ok (.ireturn, 1) := by decide +kernel
theorem dX9_saw_48 : decode cX9_saw 48 = .ok (.aload_n 0, 1) := by decide +kernel
theorem dX9_saw_49 : decode cX9_saw 49 = .ok (.getfield 7, 3) := by decide +kernel
theorem dX9_saw_52 : decode cX9_saw 52 = .ok (.bipush 46, 2) := by decide +kernel
theorem dX9_saw_54 : decode cX9_saw 54 = .ok (.iconst 2, 1) := by decide +kernel
theorem dX9_saw_55 : decode cX9_saw 55 = .ok (.aload_n 0, 1) := by decide +kernel
theorem dX9_saw_56 : decode cX9_saw 56 = .ok (.getfield 7, 3) := by decide +kernel
theorem dX9_saw_59 : decode cX9_saw 59 = .ok (.iconst 2, 1) := by decide +kernel
theorem dX9_saw_60 : decode cX9_saw 60 = .ok (.iaload, 1) := by decide +kernel
theorem dX9_saw_61 : decode cX9_saw 61 = .ok (.imul, 1) := by decide +kernel
theorem dX9_saw_62 : decode cX9_saw 62 = .ok (.iadd, 1) := by decide +kernel
theorem dX9_saw_63 : decode cX9_saw 63 = .ok (.iload_n 1, 1) := by decide +kernel
theorem dX9_saw_64 : decode cX9_saw 64 = .ok (.iastore, 1) := by decide +kernel
theorem dX9_saw_65 : decode cX9_saw 65 = .ok (.aload_n 0, 1) := by decide +kernel
theorem dX9_saw_66 : decode cX9_saw 66 = .ok (.getfield 7, 3) := by decide +kernel
theorem dX9_saw_69 : decode cX9_saw 69 = .ok (.bipush 46, 2) := by decide +kernel
theorem dX9_saw_71 : decode cX9_saw 71 = .ok (.iconst 2, 1) := by decide +kernel
theorem dX9_saw_72 : decode cX9_saw 72 = .ok (.aload_n 0, 1) := by decide +kernel
theorem dX9_saw_73 : decode cX9_saw 73 = .ok (.getfield 7, 3) := by decide +kernel
theorem dX9_saw_76 : decode cX9_saw 76 = .ok (.iconst 2, 1) := by decide +kernel
theorem dX9_saw_77 : decode cX9_saw 77 = .ok (.iaload, 1) := by decide +kernel
theorem dX9_saw_78 : decode cX9_saw 78 = .ok (.imul, 1) := by decide +kernel
theorem dX9_saw_79 : decode cX9_saw 79 = .ok (.iadd, 1) := by decide +kernel
theorem dX9_saw_80 : decode cX9_saw 80 = .ok (.iconst 1, 1) := by decide +kernel
theorem dX9_saw_81 : decode cX9_saw 81 = .ok (.iadd, 1) := by decide +kernel
theorem dX9_saw_82 : decode cX9_saw 82 = .ok (.iload_n 2, 1) := by decide +kernel
theorem dX9_saw_83 : decode cX9_saw 83 = .ok (.iastore, 1) := by decide +kernel
theorem dX9_saw_84 : decode cX9_saw 84 = .ok (.aload_n 0, 1) := by decide +kernel
theorem dX9_saw_85 : decode cX9_saw 85 = .ok (.getfield 7, 3) := by decide +kernel
theorem dX9_saw_88 : decode cX9_saw 88 = .ok (.iconst 2, 1) := by decide +kernel
theorem dX9_saw_89 : decode cX9_saw 89 = .ok (.dup2, 1) := by decide +kernel
theorem dX9_saw_90 : decode cX9_saw 90 = .ok (.iaload, 1) := by decide +kernel
theorem dX9_saw_91 : decode cX9_saw 91 = .ok (.iconst 1, 1) := by decide +kernel
theorem dX9_saw_92 : decode cX9_saw 92 = .ok (.iadd, 1) := by decide +kernel
theorem dX9_saw_93 : decode cX9_saw 93 = .ok (.iastore, 1) := by decide +kernel
theorem dX9_saw_94 : decode cX9_saw 94 = .ok (.aload_n 0, 1) := by decide +kernel
theorem dX9_saw_95 : decode cX9_saw 95 = .ok (.getfield 7, 3) := by decide +kernel
theorem dX9_saw_98 : decode cX9_saw 98 = .ok (.iconst 2, 1) := by decide +kernel
theorem dX9_saw_99 : decode cX9_saw 99 = .ok (.iaload, 1) := by decide +kernel
theorem dX9_saw_100 : decode cX9_saw 100 = .ok (.ireturn, 1) := by decide +kernel
theorem dX9_where_0 : decode cX9_where 0 = .ok (.iconst 0, 1) := by decide +kernel
theorem dX9_where_1 : decode cX9_where 1 = .ok (.istore_n 1, 1) := by decide +kernel
theorem dX9_where_2 : decode cX9_where 2 = .ok (.iconst 0, 1) := by decide +kernel
theorem dX9_where_3 : decode cX9_where 3 = .ok (.istore_n 2, 1) := by decide +kernel
theorem dX9_where_4 : decode cX9_where 4 = .ok (.iload_n 2, 1) := by decide +kernel
theorem dX9_where_5 : decode cX9_where 5 = .ok (.bipush 30, 2) := by decide +kernel
theorem dX9_where_7 : decode cX9_where 7 = .ok (.if_icmp .ge 99, 3) := by decide +kernel
theorem dX9_where_10 : decode cX9_where 10 = .ok (.iconst 1, 1) := by decide +kernel
theorem dX9_where_11 : decode cX9_where 11 = .ok (.istore_n 3, 1) := by decide +kernel
theorem dX9_where_12 : decode cX9_where 12 = .ok (.iconst 0, 1) := by decide +kernel
theorem dX9_where_13 : decode cX9_where 13 = .ok (.istore 4, 2) := by decide +kernel
theorem dX9_where_15 : decode cX9_where 15 = .ok (.iload 4, 2) := by decide +kernel
theorem dX9_where_17 : decode cX9_where 17 = .ok (.aload_n 0, 1) := by decide +kernel
theorem dX9_where_18 : decode cX9_where 18 = .ok (.getfield 7, 3) := by decide +kernel
theorem dX9_where_21 : decode cX9_where 21 = .ok (.iconst 2, 1) := by decide +kernel
theorem dX9_where_22 : decode cX9_where 22 = .ok (.iaload, 1) := by decide +kernel
theorem dX9_where_23 : decode cX9_where 23 = .ok (.if_icmp .ge 63, 3) := by decide +kernel
theorem dX9_where_26 : decode cX9_where 26 = .ok (.iload_n 3, 1) := by decide +kernel
theorem dX9_where_27 : decode cX9_where 27 = .ok (.ifCond .eq 51, 3) := by decide +kernel
theorem dX9_where_30 : decode cX9_where 30 = .ok (.aload_n 0, 1) := by decide +kernel
theorem dX9_where_31 : decode cX9_where 31 = .ok (.getfield 7, 3) := by decide +kernel
theorem dX9_where_34 : decode cX9_where 34 = .ok (.iload_n 2, 1) := by decide +kernel
theorem dX9_where_35 : decode cX9_where 35 = .ok (.aload_n 0, 1) := by decide +kernel
theorem dX9_where_36 : decode cX9_where 36 = .ok (.getfield 7, 3) := by decide +kernel
theorem dX9_where_39 : decode cX9_where 39 = .ok (.invokestatic 133, 3) := by decide +kernel
theorem dX9_where_42 : decode cX9_where 42 = .ok (.aload_n 0, 1) := by decide +kernel
theorem dX9_where_43 : decode cX9_where 43 = .ok (.getfield 7, 3) := by decide +kernel
theorem dX9_where_46 : decode cX9_where 46 = .ok (.bipush 46, 2) := by decide +kernel
theorem dX9_where_48 : decode cX9_where 48 = .ok (.iconst 2, 1) := by decide +kernel
theorem dX9_where_49 : decode cX9_where 49 = .ok (.iload 4, 2) := by decide +kernel
theorem dX9_where_51 : decode cX9_where 51 = .ok (.imul, 1) := by decide +kernel
theorem dX9_where_52 : decode cX9_where 52 = .ok (.iadd, 1) := by decide +kernel
theorem dX9_where_53 : decode cX9_where 53 = .ok (.iaload, 1) := by decide +kernel
theorem dX9_where_54 : decode cX9_where 54 = .ok (.invokestatic 137, 3) := by decide +kernel
theorem dX9_where_57 : decode cX9_where 57 = .ok (.aload_n 0, 1) := by decide +kernel
theorem dX9_where_58 : decode cX9_where 58 = .ok (.getfield 7, 3) := by decide +kernel
theorem dX9_where_61 : decode cX9_where 61 = .ok (.bipush 46, 2) := by decide +kernel
theorem dX9_where_63 : decode cX9_where 63 = .ok (.iconst 2, 1) := by decide +kernel
theorem dX9_where_64 : decode cX9_where 64 = .ok (.iload 4, 2) := by decide +kernel
theorem dX9_where_66 : decode cX9_where 66 = .ok (.imul, 1) := by decide +kernel
theorem dX9_where_67 : decode cX9_where 67 = .ok (.iadd, 1) := by decide +kernel
theorem dX9_where_68 : decode cX9_where 68 = .ok (.iconst 1, 1) := by decide +kernel
theorem dX9_where_69 : decode cX9_where 69 = .ok (.iadd, 1) := by decide +kernel
theorem dX9_where_70 : decode cX9_where 70 = .ok (.iaload, 1) := by decide +kernel
theorem dX9_where_71 : decode cX9_where 71 = .ok (.if_icmp .ne 7, 3) := by decide +kernel
theorem dX9_where_74 : decode cX9_where 74 = .ok (.iconst 1, 1) := by decide +kernel
theorem dX9_where_75 : decode cX9_where 75 = .ok (.goto 4, 3) := by decide +kernel
theorem dX9_where_78 : decode cX9_where 78 = .ok (.iconst 0, 1) := by decide +kernel
theorem dX9_where_79 : decode cX9_where 79 = .ok (.istore_n 3, 1) := by decide +kernel
theorem dX9_where_80 : decode cX9_where 80 = .ok (.iinc 4 1, 3) := by decide +kernel
theorem dX9_where_83 : decode cX9_where 83 = .ok (.goto (-68), 3) := by decide +kernel
theorem dX9_where_86 : decode cX9_where 86 = .ok (.iload_n 1, 1) := by decide +kernel
theorem dX9_where_87 : decode cX9_where 87 = .ok (.iload_n 3, 1) := by decide +kernel
theorem dX9_where_88 : decode cX9_where 88 = .ok (.ifCond .eq 9, 3) := by decide +kernel
theorem dX9_where_91 : decode cX9_where 91 = .ok (.iconst 1, 1) := by decide +kernel
theorem dX9_where_92 : decode cX9_where 92 = .ok (.iload_n 2, 1) := by decide +kernel
theorem dX9_where_93 : decode cX9_where 93 = .ok (.ishl, 1) := by decide +kernel
theorem dX9_where_94 : decode cX9_where 94 = .ok (.goto 4, 3) := by decide +kernel
theorem dX9_where_97 : decode cX9_where 97 = .ok (.iconst 0, 1) := by decide +kernel
theorem dX9_where_98 : decode cX9_where 98 = .ok (.ior, 1) := by decide +kernel
theorem dX9_where_99 : decode cX9_where 99 = .ok (.istore_n 1, 1) := by decide +kernel
theorem dX9_where_100 : decode cX9_where 100 = .ok (.iinc 2 1, 3) := by decide +kernel
theorem dX9_where_103 : decode cX9_where 103 = .ok (.goto (-99), 3) := by decide +kernel
theorem dX9_where_106 : decode cX9_where 106 = .ok (.iload_n 1, 1) := by decide +kernel
theorem dX9_where_107 : decode cX9_where 107 = .ok (.ireturn, 1) := by decide +kernel
theorem dX9_note_0 : decode cX9_note 0 = .ok (.aload_n 0, 1) := by decide +kernel
theorem dX9_note_1 : decode cX9_note 1 = .ok (.iload_n 1, 1) := by decide +kernel
theorem dX9_note_2 : decode cX9_note 2 = .ok (.invokevirtual 153, 3) := by decide +kernel
theorem dX9_note_5 : decode cX9_note 5 = .ok (.ifCond .eq 43, 3) := by decide +kernel
theorem dX9_note_8 : decode cX9_note 8 = .ok (.iload_n 2, 1) := by decide +kernel
theorem dX9_note_9 : decode cX9_note 9 = .ok (.i2l, 1) := by decide +kernel
theorem dX9_note_10 : decode cX9_note 10 = .ok (.lconst 1, 1) := by decide +kernel
theorem dX9_note_11 : decode cX9_note 11 = .ok (.ldc2_w 70, 3) := by decide +kernel
theorem dX9_note_14 : decode cX9_note 14 = .ok (.invokestatic 59, 3) := by decide +kernel
theorem dX9_note_17 : decode cX9_note 17 = .ok (.ifCond .eq 31, 3) := by decide +kernel
theorem dX9_note_20 : decode cX9_note 20 = .ok (.iload_n 3, 1) := by decide +kernel
theorem dX9_note_21 : decode cX9_note 21 = .ok (.invokestatic 198, 3) := by decide +kernel
theorem dX9_note_24 : decode cX9_note 24 = .ok (.ifCond .eq 24, 3) := by decide +kernel
theorem dX9_note_27 : decode cX9_note 27 = .ok (.iload 4, 2) := by decide +kernel
theorem dX9_note_29 : decode cX9_note 29 = .ok (.invokestatic 177, 3) := by decide +kernel
theorem dX9_note_32 : decode cX9_note 32 = .ok (.ifCond .eq 16, 3) := by decide +kernel
theorem dX9_note_35 : decode cX9_note 35 = .ok (.iload 5, 2) := by decide +kernel
theorem dX9_note_37 : decode cX9_note 37 = .ok (.i2l, 1) := by decide +kernel
theorem dX9_note_38 : decode cX9_note 38 = .ok (.lconst 0, 1) := by decide +kernel
theorem dX9_note_39 : decode cX9_note 39 = .ok (.ldc2_w 190, 3) := by decide +kernel
theorem dX9_note_42 : decode cX9_note 42 = .ok (.invokestatic 59, 3) := by decide +kernel
theorem dX9_note_45 : decode cX9_note 45 = .ok (.ifCond .ne 10, 3) := by decide +kernel
theorem dX9_note_48 : decode cX9_note 48 = .ok (.aload_n 0, 1) := by decide +kernel
theorem dX9_note_49 : decode cX9_note 49 = .ok (.bipush (-2), 2) := by decide +kernel
theorem dX9_note_51 : decode cX9_note 51 = .ok (.invokevirtual 78, 3) := by decide +kernel
theorem dX9_note_54 : decode cX9_note 54 = .ok (.ireturn, 1) := by decide +kernel
theorem dX9_note_55 : decode cX9_note 55 = .ok (.aload_n 0, 1) := by decide +kernel
theorem dX9_note_56 : decode cX9_note 56 = .ok (.getfield 7, 3) := by decide +kernel
theorem dX9_note_59 : decode cX9_note 59 = .ok (.iconst 3, 1) := by decide +kernel
theorem dX9_note_60 : decode cX9_note 60 = .ok (.iaload, 1) := by decide +kernel
theorem dX9_note_61 : decode cX9_note 61 = .ok (.bipush 6, 2) := by decide +kernel
theorem dX9_note_63 : decode cX9_note 63 = .ok (.if_icmp .ne 8, 3) := by decide +kernel
theorem dX9_note_66 : decode cX9_note 66 = .ok (.aload_n 0, 1) := by decide +kernel
theorem dX9_note_67 : decode cX9_note 67 = .ok (.invokevirtual 82, 3) := by decide +kernel
theorem dX9_note_70 : decode cX9_note 70 = .ok (.ireturn, 1) := by decide +kernel
theorem dX9_note_71 : decode cX9_note 71 = .ok (.bipush 58, 2) := by decide +kernel
theorem dX9_note_73 : decode cX9_note 73 = .ok (.iconst 5, 1) := by decide +kernel
theorem dX9_note_74 : decode cX9_note 74 = .ok (.aload_n 0, 1) := by decide +kernel
theorem dX9_note_75 : decode cX9_note 75 = .ok (.getfield 7, 3) := by decide +kernel
theorem dX9_note_78 : decode cX9_note 78 = .ok (.iconst 3, 1) := by decide +kernel
theorem dX9_note_79 : decode cX9_note 79 = .ok (.iaload, 1) := by decide +kernel
theorem dX9_note_80 : decode cX9_note 80 = .ok (.imul, 1) := by decide +kernel
theorem dX9_note_81 : decode cX9_note 81 = .ok (.iadd, 1) := by decide +kernel
theorem dX9_note_82 : decode cX9_note 82 = .ok (.istore 6, 2) := by decide +kernel
theorem dX9_note_84 : decode cX9_note 84 = .ok (.aload_n 0, 1) := by decide +kernel
theorem dX9_note_85 : decode cX9_note 85 = .ok (.getfield 7, 3) := by decide +kernel
theorem dX9_note_88 : decode cX9_note 88 = .ok (.iload 6, 2) := by decide +kernel
theorem dX9_note_90 : decode cX9_note 90 = .ok (.iload_n 1, 1) := by decide +kernel
theorem dX9_note_91 : decode cX9_note 91 = .ok (.iastore, 1) := by decide +kernel
theorem dX9_note_92 : decode cX9_note 92 = .ok (.aload_n 0, 1) := by decide +kernel
theorem dX9_note_93 : decode cX9_note 93 = .ok (.getfield 7, 3) := by decide +kernel
theorem dX9_note_96 : decode cX9_note 96 = .ok (.iload 6, 2) := by decide +kernel
theorem dX9_note_98 : decode cX9_note 98 = .ok (.iconst 1, 1) := by decide +kernel
theorem dX9_note_99 : decode cX9_note 99 = .ok (.iadd, 1) := by decide +kernel
theorem dX9_note_100 : decode cX9_note 100 = .ok (.iload_n 2, 1) := by decide +kernel
theorem dX9_note_101 : decode cX9_note 101 = .ok (.iastore, 1) := by decide +kernel
theorem dX9_note_102 : decode cX9_note 102 = .ok (.aload_n 0, 1) := by decide +kernel
theorem dX9_note_103 : decode cX9_note 103 = .ok (.getfield 7, 3) := by decide +kernel
theorem dX9_note_106 : decode cX9_note 106 = .ok (.iload 6, 2) := by decide +kernel
theorem dX9_note_108 : decode cX9_note 108 = .ok (.iconst 2, 1) := by decide +kernel
theorem dX9_note_109 : decode cX9_note 109 = .ok (.iadd, 1) := by decide +kernel
theorem dX9_note_110 : decode cX9_note 110 = .ok (.iload_n 3, 1) := by decide +kernel
theorem dX9_note_111 : decode cX9_note 111 = .ok (.iastore, 1) := by decide +kernel
theorem dX9_note_112 : decode cX9_note 112 = .ok (.aload_n 0, 1) := by decide +kernel
theorem dX9_note_113 : decode cX9_note 113 = .ok (.getfield 7, 3) := by decide +kernel
theorem dX9_note_116 : decode cX9_note 116 = .ok (.iload 6, 2) := by decide +kernel
theorem dX9_note_118 : decode cX9_note 118 = .ok (.iconst 3, 1) := by decide +kernel
theorem dX9_note_119 : decode cX9_note 119 = .ok (.iadd, 1) := by decide +kernel
theorem dX9_note_120 : decode cX9_note 120 = .ok (.iload 4, 2) := by decide +kernel
theorem dX9_note_122 : decode cX9_note 122 = .ok (.iastore, 1) := by decide +kernel
theorem dX9_note_123 : decode cX9_note 123 = .ok (.aload_n 0, 1) := by decide +kernel
theorem dX9_note_124 : decode cX9_note 124 = .ok (.getfield 7, 3) := by decide +kernel
theorem dX9_note_127 : decode cX9_note 127 = .ok (.iload 6, 2) := by decide +kernel
theorem dX9_note_129 : decode cX9_note 129 = .ok (.iconst 4, 1) := by decide +kernel
theorem dX9_note_130 : decode cX9_note 130 = .ok (.iadd, 1) := by decide +kernel
theorem dX9_note_131 : decode cX9_note 131 = .ok (.iload 5, 2) := by decide +kernel
theorem dX9_note_133 : decode cX9_note 133 = .ok (.iastore, 1) := by decide +kernel
theorem dX9_note_134 : decode cX9_note 134 = .ok (.aload_n 0, 1) := by decide +kernel
theorem dX9_note_135 : decode cX9_note 135 = .ok (.getfield 7, 3) := by decide +kernel
theorem dX9_note_138 : decode cX9_note 138 = .ok (.iconst 3, 1) := by decide +kernel
theorem dX9_note_139 : decode cX9_note 139 = .ok (.dup2, 1) := by decide +kernel
theorem dX9_note_140 : decode cX9_note 140 = .ok (.iaload, 1) := by decide +kernel
theorem dX9_note_141 : decode cX9_note 141 = .ok (.iconst 1, 1) := by decide +kernel
theorem dX9_note_142 : decode cX9_note 142 = .ok (.iadd, 1) := by decide +kernel
theorem dX9_note_143 : decode cX9_note 143 = .ok (.iastore, 1) := by decide +kernel
theorem dX9_note_144 : decode cX9_note 144 = .ok (.aload_n 0, 1) := by decide +kernel
theorem dX9_note_145 : decode cX9_note 145 = .ok (.getfield 7, 3) := by decide +kernel
theorem dX9_note_148 : decode cX9_note 148 = .ok (.iconst 3, 1) := by decide +kernel
theorem dX9_note_149 : decode cX9_note 149 = .ok (.iaload, 1) := by decide +kernel
theorem dX9_note_150 : decode cX9_note 150 = .ok (.ireturn, 1) := by decide +kernel
theorem dX9_mark_0 : decode cX9_mark 0 = .ok (.aload_n 0, 1) := by decide +kernel
theorem dX9_mark_1 : decode cX9_mark 1 = .ok (.iload_n 1, 1) := by decide +kernel
theorem dX9_mark_2 : decode cX9_mark 2 = .ok (.invokevirtual 159, 3) := by decide +kernel
theorem dX9_mark_5 : decode cX9_mark 5 = .ok (.ifCond .eq 33, 3) := by decide +kernel
theorem dX9_mark_8 : decode cX9_mark 8 = .ok (.iload_n 2, 1) := by decide +kernel
theorem dX9_mark_9 : decode cX9_mark 9 = .ok (.invokestatic 198, 3) := by decide +kernel
theorem dX9_mark_12 : decode cX9_mark 12 = .ok (.ifCond .eq 26, 3) := by decide +kernel
theorem dX9_mark_15 : decode cX9_mark 15 = .ok (.iload_n 3, 1) := by decide +kernel
theorem dX9_mark_16 : decode cX9_mark 16 = .ok (.i2l, 1) := by decide +kernel
theorem dX9_mark_17 : decode cX9_mark 17 = .ok (.lconst 0, 1) := by decide +kernel
theorem dX9_mark_18 : decode cX9_mark 18 = .ok (.ldc2_w 190, 3) := by decide +kernel
theorem dX9_mark_21 : decode cX9_mark 21 = .ok (.invokestatic 59, 3) := by decide +kernel
