theorem dX8_init_0 : decode cX8_init 0 = .ok (.aload_n 0, 1) := by decide +kernel
theorem dX8_init_1 : decode cX8_init 1 = .ok (.invokespecial 1, 3) := by decide +kernel
theorem dX8_init_4 : decode cX8_init 4 = .ok (.aload_n 0, 1) := by decide +kernel
theorem dX8_init_5 : decode cX8_init 5 = .ok (.new 7, 3) := by decide +kernel
theorem dX8_init_8 : decode cX8_init 8 = .ok (.dup, 1) := by decide +kernel
theorem dX8_init_9 : decode cX8_init 9 = .ok (.invokespecial 9, 3) := by decide +kernel
theorem dX8_init_12 : decode cX8_init 12 = .ok (.putfield 10, 3) := by decide +kernel
theorem dX8_init_15 : decode cX8_init 15 = .ok (.aload_n 0, 1) := by decide +kernel
theorem dX8_init_16 : decode cX8_init 16 = .ok (.iconst 2, 1) := by decide +kernel
theorem dX8_init_17 : decode cX8_init 17 = .ok (.anewarray 7, 3) := by decide +kernel
theorem dX8_init_20 : decode cX8_init 20 = .ok (.putfield 16, 3) := by decide +kernel
theorem dX8_init_23 : decode cX8_init 23 = .ok (.aload_n 0, 1) := by decide +kernel
theorem dX8_init_24 : decode cX8_init 24 = .ok (.iconst 2, 1) := by decide +kernel
theorem dX8_init_25 : decode cX8_init 25 = .ok (.newarray .boolean, 2) := by decide +kernel
theorem dX8_init_27 : decode cX8_init 27 = .ok (.putfield 20, 3) := by decide +kernel
theorem dX8_init_30 : decode cX8_init 30 = .ok (.aload_n 0, 1) := by decide +kernel
theorem dX8_init_31 : decode cX8_init 31 = .ok (.new 24, 3) := by decide +kernel
theorem dX8_init_34 : decode cX8_init 34 = .ok (.dup, 1) := by decide +kernel
theorem dX8_init_35 : decode cX8_init 35 = .ok (.invokespecial 26, 3) := by decide +kernel
theorem dX8_init_38 : decode cX8_init 38 = .ok (.putfield 27, 3) := by decide +kernel
theorem dX8_init_41 : decode cX8_init 41 = .ok (.aload_n 0, 1) := by decide +kernel
theorem dX8_init_42 : decode cX8_init 42 = .ok (.new 31, 3) := by decide +kernel
theorem dX8_init_45 : decode cX8_init 45 = .ok (.dup, 1) := by decide +kernel
theorem dX8_init_46 : decode cX8_init 46 = .ok (.invokespecial 33, 3) := by decide +kernel
theorem dX8_init_49 : decode cX8_init 49 = .ok (.putfield 34, 3) := by decide +kernel
theorem dX8_init_52 : decode cX8_init 52 = .ok (.aload_n 0, 1) := by decide +kernel
theorem dX8_init_53 : decode cX8_init 53 = .ok (.new 38, 3) := by decide +kernel
theorem dX8_init_56 : decode cX8_init 56 = .ok (.dup, 1) := by decide +kernel
theorem dX8_init_57 : decode cX8_init 57 = .ok (.invokespecial 40, 3) := by decide +kernel
theorem dX8_init_60 : decode cX8_init 60 = .ok (.putfield 41, 3) := by decide +kernel
theorem dX8_init_63 : decode cX8_init 63 = .ok (.aload_n 0, 1) := by decide +kernel
theorem dX8_init_64 : decode cX8_init 64 = .ok (.new 45, 3) := by decide +kernel
theorem dX8_init_67 : decode cX8_init 67 = .ok (.dup, 1) := by decide +kernel
theorem dX8_init_68 : decode cX8_init 68 = .ok (.invokespecial 47, 3) := by decide +kernel
theorem dX8_init_71 : decode cX8_init 71 = .ok (.putfield 48, 3) := by decide +kernel
theorem dX8_init_74 : decode cX8_init 74 = .ok (.aload_n 0, 1) := by decide +kernel
theorem dX8_init_75 : decode cX8_init 75 = .ok (.bipush 6, 2) := by decide +kernel
theorem dX8_init_77 : decode cX8_init 77 = .ok (.newarray .int, 2) := by decide +kernel
theorem dX8_init_79 : decode cX8_init 79 = .ok (.putfield 52, 3) := by decide +kernel
theorem dX8_init_82 : decode cX8_init 82 = .ok (.aload_n 0, 1) := by decide +kernel
theorem dX8_init_83 : decode cX8_init 83 = .ok (.lconst 1, 1) := by decide +kernel
theorem dX8_init_84 : decode cX8_init 84 = .ok (.putfield 56, 3) := by decide +kernel
theorem dX8_init_87 : decode cX8_init 87 = .ok (.iconst 0, 1) := by decide +kernel
theorem dX8_init_88 : decode cX8_init 88 = .ok (.istore_n 1, 1) := by decide +kernel
theorem dX8_init_89 : decode cX8_init 89 = .ok (.iload_n 1, 1) := by decide +kernel
theorem dX8_init_90 : decode cX8_init 90 = .ok (.aload_n 0, 1) := by decide +kernel
theorem dX8_init_91 : decode cX8_init 91 = .ok (.getfield 16, 3) := by decide +kernel
theorem dX8_init_94 : decode cX8_init 94 = .ok (.arraylength, 1) := by decide +kernel
theorem dX8_init_95 : decode cX8_init 95 = .ok (.if_icmp .ge 22, 3) := by decide +kernel
theorem dX8_init_98 : decode cX8_init 98 = .ok (.aload_n 0, 1) := by decide +kernel
theorem dX8_init_99 : decode cX8_init 99 = .ok (.getfield 16, 3) := by decide +kernel
theorem dX8_init_102 : decode cX8_init 102 = .ok (.iload_n 1, 1) := by decide +kernel
theorem dX8_init_103 : decode cX8_init 103 = .ok (.new 7, 3) := by decide +kernel
theorem dX8_init_106 : decode cX8_init 106 = .ok (.dup, 1) := by decide +kernel
theorem dX8_init_107 : decode cX8_init 107 = .ok (.invokespecial 9, 3) := by decide +kernel
theorem dX8_init_110 : decode cX8_init 110 = .ok (.aastore, 1) := by decide +kernel
theorem dX8_init_111 : decode cX8_init 111 = .ok (.iinc 1 1, 3) := by decide +kernel
theorem dX8_init_114 : decode cX8_init 114 = .ok (.goto (-25), 3) := by decide +kernel
theorem dX8_init_117 : decode cX8_init 117 = .ok (.return_, 1) := by decide +kernel
theorem dX8_land_0 : decode cX8_land 0 = .ok (.aload_n 0, 1) := by decide +kernel
theorem dX8_land_1 : decode cX8_land 1 = .ok (.getfield 10, 3) := by decide +kernel
theorem dX8_land_4 : decode cX8_land 4 = .ok (.getfield 60, 3) := by decide +kernel
theorem dX8_land_7 : decode cX8_land 7 = .ok (.getfield 63, 3) := by decide +kernel
theorem dX8_land_10 : decode cX8_land 10 = .ok (.istore_n 1, 1) := by decide +kernel
theorem dX8_land_11 : decode cX8_land 11 = .ok (.aload_n 0, 1) := by decide +kernel
theorem dX8_land_12 : decode cX8_land 12 = .ok (.getfield 10, 3) := by decide +kernel
theorem dX8_land_15 : decode cX8_land 15 = .ok (.invokevirtual 67, 3) := by decide +kernel
theorem dX8_land_18 : decode cX8_land 18 = .ok (.iload_n 1, 1) := by decide +kernel
theorem dX8_land_19 : decode cX8_land 19 = .ok (.ireturn, 1) := by decide +kernel
theorem dX8_show_0 : decode cX8_show 0 = .ok (.iload_n 1, 1) := by decide +kernel
theorem dX8_show_1 : decode cX8_show 1 = .ok (.invokestatic 70, 3) := by decide +kernel
theorem dX8_show_4 : decode cX8_show 4 = .ok (.ifCond .eq 17, 3) := by decide +kernel
theorem dX8_show_7 : decode cX8_show 7 = .ok (.iload_n 2, 1) := by decide +kernel
theorem dX8_show_8 : decode cX8_show 8 = .ok (.invokestatic 74, 3) := by decide +kernel
theorem dX8_show_11 : decode cX8_show 11 = .ok (.ifCond .eq 10, 3) := by decide +kernel
theorem dX8_show_14 : decode cX8_show 14 = .ok (.iload_n 3, 1) := by decide +kernel
theorem dX8_show_15 : decode cX8_show 15 = .ok (.invokestatic 77, 3) := by decide +kernel
theorem dX8_show_18 : decode cX8_show 18 = .ok (.ifCond .ne 10, 3) := by decide +kernel
theorem dX8_show_21 : decode cX8_show 21 = .ok (.aload_n 0, 1) := by decide +kernel
theorem dX8_show_22 : decode cX8_show 22 = .ok (.bipush (-2), 2) := by decide +kernel
theorem dX8_show_24 : decode cX8_show 24 = .ok (.invokevirtual 80, 3) := by decide +kernel
theorem dX8_show_27 : decode cX8_show 27 = .ok (.ireturn, 1) := by decide +kernel
theorem dX8_show_28 : decode cX8_show 28 = .ok (.aload_n 0, 1) := by decide +kernel
theorem dX8_show_29 : decode cX8_show 29 = .ok (.getfield 10, 3) := by decide +kernel
theorem dX8_show_32 : decode cX8_show 32 = .ok (.getfield 60, 3) := by decide +kernel
theorem dX8_show_35 : decode cX8_show 35 = .ok (.getfield 84, 3) := by decide +kernel
theorem dX8_show_38 : decode cX8_show 38 = .ok (.iconst 5, 1) := by decide +kernel
theorem dX8_show_39 : decode cX8_show 39 = .ok (.if_icmp .lt 10, 3) := by decide +kernel
theorem dX8_show_42 : decode cX8_show 42 = .ok (.aload_n 0, 1) := by decide +kernel
theorem dX8_show_43 : decode cX8_show 43 = .ok (.bipush (-4), 2) := by decide +kernel
theorem dX8_show_45 : decode cX8_show 45 = .ok (.invokevirtual 80, 3) := by decide +kernel
theorem dX8_show_48 : decode cX8_show 48 = .ok (.ireturn, 1) := by decide +kernel
theorem dX8_show_49 : decode cX8_show 49 = .ok (.aload_n 0, 1) := by decide +kernel
theorem dX8_show_50 : decode cX8_show 50 = .ok (.getfield 10, 3) := by decide +kernel
theorem dX8_show_53 : decode cX8_show 53 = .ok (.getfield 87, 3) := by decide +kernel
theorem dX8_show_56 : decode cX8_show 56 = .ok (.iconst 0, 1) := by decide +kernel
theorem dX8_show_57 : decode cX8_show 57 = .ok (.putfield 91, 3) := by decide +kernel
theorem dX8_show_60 : decode cX8_show 60 = .ok (.aload_n 0, 1) := by decide +kernel
theorem dX8_show_61 : decode cX8_show 61 = .ok (.getfield 10, 3) := by decide +kernel
theorem dX8_show_64 : decode cX8_show 64 = .ok (.getfield 60, 3) := by decide +kernel
theorem dX8_show_67 : decode cX8_show 67 = .ok (.iload_n 1, 1) := by decide +kernel
theorem dX8_show_68 : decode cX8_show 68 = .ok (.iload_n 2, 1) := by decide +kernel
theorem dX8_show_69 : decode cX8_show 69 = .ok (.iload_n 3, 1) := by decide +kernel
theorem dX8_show_70 : decode cX8_show 70 = .ok (.invokevirtual 96, 3) := by decide +kernel
theorem dX8_show_73 : decode cX8_show 73 = .ok (.ireturn, 1) := by decide +kernel
theorem dX8_watcher_0 : decode cX8_watcher 0 = .ok (.iload_n 1, 1) := by decide +kernel
theorem dX8_watcher_1 : decode cX8_watcher 1 = .ok (.invokestatic 70, 3) := by decide +kernel
theorem dX8_watcher_4 : decode cX8_watcher 4 = .ok (.ifCond .eq 10, 3) := by decide +kernel
theorem dX8_watcher_7 : decode cX8_watcher 7 = .ok (.iload_n 2, 1) := by decide +kernel
theorem dX8_watcher_8 : decode cX8_watcher 8 = .ok (.invokestatic 74, 3) := by decide +kernel
theorem dX8_watcher_11 : decode cX8_watcher 11 = .ok (.ifCond .ne 10, 3) := by decide +kernel
theorem dX8_watcher_14 : decode cX8_watcher 14 = .ok (.aload_n 0, 1) := by decide +kernel
theorem dX8_watcher_15 : decode cX8_watcher 15 = .ok (.bipush (-2), 2) := by decide +kernel
theorem dX8_watcher_17 : decode cX8_watcher 17 = .ok (.invokevirtual 80, 3) := by decide +kernel
theorem dX8_watcher_20 : decode cX8_watcher 20 = .ok (.ireturn, 1) := by decide +kernel
theorem dX8_watcher_21 : decode cX8_watcher 21 = .ok (.aload_n 0, 1) := by decide +kernel
theorem dX8_watcher_22 : decode cX8_watcher 22 = .ok (.getfield 10, 3) := by decide +kernel
theorem dX8_watcher_25 : decode cX8_watcher 25 = .ok (.getfield 60, 3) := by decide +kernel
theorem dX8_watcher_28 : decode cX8_watcher 28 = .ok (.getfield 63, 3) := by decide +kernel
theorem dX8_watcher_31 : decode cX8_watcher 31 = .ok (.bipush 6, 2) := by decide +kernel
theorem dX8_watcher_33 : decode cX8_watcher 33 = .ok (.if_icmp .lt 10, 3) := by decide +kernel
theorem dX8_watcher_36 : decode cX8_watcher 36 = .ok (.aload_n 0, 1) := by decide +kernel
theorem dX8_watcher_37 : decode cX8_watcher 37 = .ok (.bipush (-4), 2) := by decide +kernel
theorem dX8_watcher_39 : decode cX8_watcher 39 = .ok (.invokevirtual 80, 3) := by decide +kernel
theorem dX8_watcher_42 : decode cX8_watcher 42 = .ok (.ireturn, 1) := by decide +kernel
theorem dX8_watcher_43 : decode cX8_watcher 43 = .ok (.aload_n 0, 1) := by decide +kernel
theorem dX8_watcher_44 : decode cX8_watcher 44 = .ok (.getfield 10, 3) := by decide +kernel
theorem dX8_watcher_47 : decode cX8_watcher 47 = .ok (.getfield 87, 3) := by decide +kernel
theorem dX8_watcher_50 : decode cX8_watcher 50 = .ok (.iconst 0, 1) := by decide +kernel
theorem dX8_watcher_51 : decode cX8_watcher 51 = .ok (.putfield 91, 3) := by decide +kernel
theorem dX8_watcher_54 : decode cX8_watcher 54 = .ok (.aload_n 0, 1) := by decide +kernel
theorem dX8_watcher_55 : decode cX8_watcher 55 = .ok (.getfield 10, 3) := by decide +kernel
theorem dX8_watcher_58 : decode cX8_watcher 58 = .ok (.getfield 60, 3) := by decide +kernel
theorem dX8_watcher_61 : decode cX8_watcher 61 = .ok (.iload_n 1, 1) := by decide +kernel
theorem dX8_watcher_62 : decode cX8_watcher 62 = .ok (.iload_n 2, 1) := by decide +kernel
theorem dX8_watcher_63 : decode cX8_watcher 63 = .ok (.invokevirtual 100, 3) := by decide +kernel
theorem dX8_watcher_66 : decode cX8_watcher 66 = .ok (.ireturn, 1) := by decide +kernel
theorem dX8_type_0 : decode cX8_type 0 = .ok (.iload_n 1, 1) := by decide +kernel
theorem dX8_type_1 : decode cX8_type 1 = .ok (.iconst 0, 1) := by decide +kernel
theorem dX8_type_2 : decode cX8_type 2 = .ok (.bipush 127, 2) := by decide +kernel
theorem dX8_type_4 : decode cX8_type 4 = .ok (.invokestatic 104, 3) := by decide +kernel
theorem dX8_type_7 : decode cX8_type 7 = .ok (.ifCond .ne 10, 3) := by decide +kernel
theorem dX8_type_10 : decode cX8_type 10 = .ok (.aload_n 0, 1) := by decide +kernel
theorem dX8_type_11 : decode cX8_type 11 = .ok (.bipush (-2), 2) := by decide +kernel
theorem dX8_type_13 : decode cX8_type 13 = .ok (.invokevirtual 80, 3) := by decide +kernel
theorem dX8_type_16 : decode cX8_type 16 = .ok (.ireturn, 1) := by decide +kernel
theorem dX8_type_17 : decode cX8_type 17 = .ok (.aload_n 0, 1) := by decide +kernel
theorem dX8_type_18 : decode cX8_type 18 = .ok (.getfield 41, 3) := by decide +kernel
theorem dX8_type_21 : decode cX8_type 21 = .ok (.getfield 108, 3) := by decide +kernel
theorem dX8_type_24 : decode cX8_type 24 = .ok (.sipush 150, 3) := by decide +kernel
theorem dX8_type_27 : decode cX8_type 27 = .ok (.if_icmp .lt 10, 3) := by decide +kernel
theorem dX8_type_30 : decode cX8_type 30 = .ok (.aload_n 0, 1) := by decide +kernel
theorem dX8_type_31 : decode cX8_type 31 = .ok (.bipush (-4), 2) := by decide +kernel
theorem dX8_type_33 : decode cX8_type 33 = .ok (.invokevirtual 80, 3) := by decide +kernel
theorem dX8_type_36 : decode cX8_type 36 = .ok (.ireturn, 1) := by decide +kernel
theorem dX8_type_37 : decode cX8_type 37 = .ok (.aload_n 0, 1) := by decide +kernel
theorem dX8_type_38 : decode cX8_type 38 = .ok (.getfield 41, 3) := by decide +kernel
theorem dX8_type_41 : decode cX8_type 41 = .ok (.iload_n 1, 1) := by decide +kernel
theorem dX8_type_42 : decode cX8_type 42 = .ok (.invokevirtual 111, 3) := by decide +kernel
theorem dX8_type_45 : decode cX8_type 45 = .ok (.aload_n 0, 1) := by decide +kernel
theorem dX8_type_46 : decode cX8_type 46 = .ok (.getfield 41, 3) := by decide +kernel
theorem dX8_type_49 : decode cX8_type 49 = .ok (.getfield 108, 3) := by decide +kernel
theorem dX8_type_52 : decode cX8_type 52 = .ok (.ireturn, 1) := by decide +kernel
theorem dX8_clear_0 : decode cX8_clear 0 = .ok (.aload_n 0, 1) := by decide +kernel
theorem dX8_clear_1 : decode cX8_clear 1 = .ok (.getfield 41, 3) := by decide +kernel
theorem dX8_clear_4 : decode cX8_clear 4 = .ok (.getfield 108, 3) := by decide +kernel
theorem dX8_clear_7 : decode cX8_clear 7 = .ok (.istore_n 1, 1) := by decide +kernel
theorem dX8_clear_8 : decode cX8_clear 8 = .ok (.aload_n 0, 1) := by decide +kernel
theorem dX8_clear_9 : decode cX8_clear 9 = .ok (.getfield 41, 3) := by decide +kernel
theorem dX8_clear_12 : decode cX8_clear 12 = .ok (.iconst 0, 1) := by decide +kernel
theorem dX8_clear_13 : decode cX8_clear 13 = .ok (.putfield 108, 3) := by decide +kernel
theorem dX8_clear_16 : decode cX8_clear 16 = .ok (.iload_n 1, 1) := by decide +kernel
theorem dX8_clear_17 : decode cX8_clear 17 = .ok (.ireturn, 1) := by decide +kernel
theorem dX8_read_0 : decode cX8_read 0 = .ok (.aload_n 0, 1) := by decide +kernel
theorem dX8_read_1 : decode cX8_read 1 = .ok (.getfield 41, 3) := by decide +kernel
theorem dX8_read_4 : decode cX8_read 4 = .ok (.aload_n 0, 1) := by decide +kernel
theorem dX8_read_5 : decode cX8_read 5 = .ok (.getfield 27, 3) := by decide +kernel
theorem dX8_read_8 : decode cX8_read 8 = .ok (.aload_n 0, 1) := by decide +kernel
theorem dX8_read_9 : decode cX8_read 9 = .ok (.getfield 34, 3) := by decide +kernel
theorem dX8_read_12 : decode cX8_read 12 = .ok (.invokevirtual 115, 3) := by decide +kernel
theorem dX8_read_15 : decode cX8_read 15 = .ok (.istore_n 1, 1) := by decide +kernel
theorem dX8_read_16 : decode cX8_read 16 = .ok (.iload_n 1, 1) := by decide +kernel
theorem dX8_read_17 : decode cX8_read 17 = .ok (.ifCond .ge 5, 3) := by decide +kernel
theorem dX8_read_20 : decode cX8_read 20 = .ok (.iload_n 1, 1) := by decide +kernel
theorem dX8_read_21 : decode cX8_read 21 = .ok (.ireturn, 1) := by decide +kernel
theorem dX8_read_22 : decode cX8_read 22 = .ok (.aload_n 0, 1) := by decide +kernel
theorem dX8_read_23 : decode cX8_read 23 = .ok (.getfield 10, 3) := by decide +kernel
theorem dX8_read_26 : decode cX8_read 26 = .ok (.invokevirtual 67, 3) := by decide +kernel
theorem dX8_read_29 : decode cX8_read 29 = .ok (.aload_n 0, 1) := by decide +kernel
theorem dX8_read_30 : decode cX8_read 30 = .ok (.getfield 10, 3) := by decide +kernel
theorem dX8_read_33 : decode cX8_read 33 = .ok (.getfield 60, 3) := by decide +kernel
theorem dX8_read_36 : decode cX8_read 36 = .ok (.aload_n 0, 1) := by decide +kernel
theorem dX8_read_37 : decode cX8_read 37 = .ok (.getfield 27, 3) := by decide +kernel
theorem dX8_read_40 : decode cX8_read 40 = .ok (.invokevirtual 119, 3) := by decide +kernel
theorem dX8_read_43 : decode cX8_read 43 = .ok (.iload_n 1, 1) := by decide +kernel
theorem dX8_read_44 : decode cX8_read 44 = .ok (.ireturn, 1) := by decide +kernel
theorem dX8_does_0 : decode cX8_does 0 = .ok (.iload_n 1, 1) := by decide +kernel
theorem dX8_does_1 : decode cX8_does 1 = .ok (.invokestatic 74, 3) := by decide +kernel
theorem dX8_does_4 : decode cX8_does 4 = .ok (.ifCond .ne 10, 3) := by decide +kernel
theorem dX8_does_7 : decode cX8_does 7 = .ok (.aload_n 0, 1) := by decide +kernel
theorem dX8_does_8 : decode cX8_does 8 = .ok (.bipush (-2), 2) := by decide +kernel
theorem dX8_does_10 : decode cX8_does 10 = .ok (.invokevirtual 80, 3) := by decide +kernel
theorem dX8_does_13 : decode cX8_does 13 = .ok (.ireturn, 1) := by decide +kernel
theorem dX8_does_14 : decode cX8_does 14 = .ok (.aload_n 0, 1) := by decide +kernel
theorem dX8_does_15 : decode cX8_does 15 = .ok (.getfield 10, 3) := by decide +kernel
theorem dX8_does_18 : decode cX8_does 18 = .ok (.getfield 87, 3) := by decide +kernel
theorem dX8_does_21 : decode cX8_does 21 = .ok (.aload_n 0, 1) := by decide +kernel
theorem dX8_does_22 : decode cX8_does 22 = .ok (.getfield 10, 3) := by decide +kernel
theorem dX8_does_25 : decode cX8_does 25 = .ok (.getfield 60, 3) := by decide +kernel
theorem dX8_does_28 : decode cX8_does 28 = .ok (.invokevirtual 123, 3) := by decide +kernel
theorem dX8_does_31 : decode cX8_does 31 = .ok (.aload_n 0, 1) := by decide +kernel
theorem dX8_does_32 : decode cX8_does 32 = .ok (.getfield 34, 3) := by decide +kernel
theorem dX8_does_35 : decode cX8_does 35 = .ok (.aload_n 0, 1) := by decide +kernel
theorem dX8_does_36 : decode cX8_does 36 = .ok (.getfield 10, 3) := by decide +kernel
theorem dX8_does_39 : decode cX8_does 39 = .ok (.getfield 60, 3) := by decide +kernel
theorem dX8_does_42 : decode cX8_does 42 = .ok (.iload_n 1, 1) := by decide +kernel
theorem dX8_does_43 : decode cX8_does 43 = .ok (.invokevirtual 126, 3) := by decide +kernel
theorem dX8_does_46 : decode cX8_does 46 = .ok (.ireturn, 1) := by decide +kernel
theorem dX8_rest_0 : decode cX8_rest 0 = .ok (.iload_n 1, 1) := by decide +kernel
theorem dX8_rest_1 : decode cX8_rest 1 = .ok (.iconst 1, 1) := by decide +kernel
theorem dX8_rest_2 : decode cX8_rest 2 = .ok (.bipush 99, 2) := by decide +kernel
theorem dX8_rest_4 : decode cX8_rest 4 = .ok (.invokestatic 104, 3) := by decide +kernel
theorem dX8_rest_7 : decode cX8_rest 7 = .ok (.ifCond .ne 10, 3) := by decide +kernel
theorem dX8_rest_10 : decode cX8_rest 10 = .ok (.aload_n 0, 1) := by decide +kernel
theorem dX8_rest_11 : decode cX8_rest 11 = .ok (.bipush (-2), 2) := by decide +kernel
theorem dX8_rest_13 : decode cX8_rest 13 = .ok (.invokevirtual 80, 3) := by decide +kernel
theorem dX8_rest_16 : decode cX8_rest 16 = .ok (.ireturn, 1) := by decide +kernel
theorem dX8_rest_17 : decode cX8_rest 17 = .ok (.aload_n 0, 1) := by decide +kernel
theorem dX8_rest_18 : decode cX8_rest 18 = .ok (.getfield 10, 3) := by decide +kernel
theorem dX8_rest_21 : decode cX8_rest 21 = .ok (.getfield 87, 3) := by decide +kernel
theorem dX8_rest_24 : decode cX8_rest 24 = .ok (.aload_n 0, 1) := by decide +kernel
theorem dX8_rest_25 : decode cX8_rest 25 = .ok (.getfield 10, 3) := by decide +kernel
theorem dX8_rest_28 : decode cX8_rest 28 = .ok (.getfield 60, 3) := by decide +kernel
theorem dX8_rest_31 : decode cX8_rest 31 = .ok (.invokevirtual 123, 3) := by decide +kernel
theorem dX8_rest_34 : decode cX8_rest 34 = .ok (.aload_n 0, 1) := by decide +kernel
theorem dX8_rest_35 : decode cX8_rest 35 = .ok (.getfield 10, 3) := by decide +kernel
theorem dX8_rest_38 : decode cX8_rest 38 = .ok (.getfield 60, 3) := by decide +kernel
theorem dX8_rest_41 : decode cX8_rest 41 = .ok (.iload_n 1, 1) := by decide +kernel
theorem dX8_rest_42 : decode cX8_rest 42 = .ok (.invokevirtual 130, 3) := by decide +kernel
theorem dX8_rest_45 : decode cX8_rest 45 = .ok (.aload_n 0, 1) := by decide +kernel
theorem dX8_rest_46 : decode cX8_rest 46 = .ok (.getfield 10, 3) := by decide +kernel
theorem dX8_rest_49 : decode cX8_rest 49 = .ok (.getfield 60, 3) := by decide +kernel
theorem dX8_rest_52 : decode cX8_rest 52 = .ok (.getfield 133, 3) := by decide +kernel
theorem dX8_rest_55 : decode cX8_rest 55 = .ok (.ireturn, 1) := by decide +kernel
theorem dX8_moves_0 : decode cX8_moves 0 = .ok (.aload_n 0, 1) := by decide +kernel
theorem dX8_moves_1 : decode cX8_moves 1 = .ok (.getfield 10, 3) := by decide +kernel
theorem dX8_moves_4 : decode cX8_moves 4 = .ok (.getfield 60, 3) := by decide +kernel
theorem dX8_moves_7 : decode cX8_moves 7 = .ok (.iload_n 1, 1) := by decide +kernel
theorem dX8_moves_8 : decode cX8_moves 8 = .ok (.invokevirtual 136, 3) := by decide +kernel
theorem dX8_moves_11 : decode cX8_moves 11 = .ok (.ifCond .eq 10, 3) := by decide +kernel
theorem dX8_moves_14 : decode cX8_moves 14 = .ok (.iload_n 2, 1) := by decide +kernel
theorem dX8_moves_15 : decode cX8_moves 15 = .ok (.invokestatic 74, 3) := by decide +kernel
theorem dX8_moves_18 : decode cX8_moves 18 = .ok (.ifCond .ne 10, 3) := by decide +kernel
theorem dX8_moves_21 : decode cX8_moves 21 = .ok (.aload_n 0, 1) := by decide +kernel
theorem dX8_moves_22 : decode cX8_moves 22 = .ok (.bipush (-2), 2) := by decide +kernel
theorem dX8_moves_24 : decode cX8_moves 24 = .ok (.invokevirtual 80, 3) := by decide +kernel
theorem dX8_moves_27 : decode cX8_moves 27 = .ok (.ireturn, 1) := by decide +kernel
theorem dX8_moves_28 : decode cX8_moves 28 = .ok (.aload_n 0, 1) := by decide +kernel
theorem dX8_moves_29 : decode cX8_moves 29 = .ok (.getfield 10, 3) := by decide +kernel
theorem dX8_moves_32 : decode cX8_moves 32 = .ok (.getfield 87, 3) := by decide +kernel
theorem dX8_moves_35 : decode cX8_moves 35 = .ok (.aload_n 0, 1) := by decide +kernel
theorem dX8_moves_36 : decode cX8_moves 36 = .ok (.getfield 10, 3) := by decide +kernel
theorem dX8_moves_39 : decode cX8_moves 39 = .ok (.getfield 60, 3) := by decide +kernel
theorem dX8_moves_42 : decode cX8_moves 42 = .ok (.invokevirtual 123, 3) := by decide +kernel
theorem dX8_moves_45 : decode cX8_moves 45 = .ok (.aload_n 0, 1) := by decide +kernel
theorem dX8_moves_46 : decode cX8_moves 46 = .ok (.getfield 10, 3) := by decide +kernel
theorem dX8_moves_49 : decode cX8_moves 49 = .ok (.getfield 60, 3) := by decide +kernel
theorem dX8_moves_52 : decode cX8_moves 52 = .ok (.getfield 139, 3) := by decide +kernel
theorem dX8_moves_55 : decode cX8_moves 55 = .ok (.iload_n 1, 1) := by decide +kernel
theorem dX8_moves_56 : decode cX8_moves 56 = .ok (.iaload, 1) := by decide +kernel
theorem dX8_moves_57 : decode cX8_moves 57 = .ok (.istore_n 3, 1) := by decide +kernel
theorem dX8_moves_58 : decode cX8_moves 58 = .ok (.aload_n 0, 1) := by decide +kernel
theorem dX8_moves_59 : decode cX8_moves 59 = .ok (.getfield 10, 3) := by decide +kernel
theorem dX8_moves_62 : decode cX8_moves 62 = .ok (.getfield 60, 3) := by decide +kernel
theorem dX8_moves_65 : decode cX8_moves 65 = .ok (.getfield 139, 3) := by decide +kernel
theorem dX8_moves_68 : decode cX8_moves 68 = .ok (.iload_n 1, 1) := by decide +kernel
theorem dX8_moves_69 : decode cX8_moves 69 = .ok (.iload_n 2, 1) := by decide +kernel
theorem dX8_moves_70 : decode cX8_moves 70 = .ok (.iastore, 1) := by decide +kernel
theorem dX8_moves_71 : decode cX8_moves 71 = .ok (.iload_n 3, 1) := by decide +kernel
theorem dX8_moves_72 : decode cX8_moves 72 = .ok (.ireturn, 1) := by decide +kernel
theorem dX8_turns_0 : decode cX8_turns 0 = .ok (.aload_n 0, 1) := by decide +kernel
theorem dX8_turns_1 : decode cX8_turns 1 = .ok (.getfield 10, 3) := by decide +kernel
theorem dX8_turns_4 : decode cX8_turns 4 = .ok (.getfield 60, 3) := by decide +kernel
theorem dX8_turns_7 : decode cX8_turns 7 = .ok (.iload_n 1, 1) := by decide +kernel
theorem dX8_turns_8 : decode cX8_turns 8 = .ok (.invokevirtual 136, 3) := by decide +kernel
theorem dX8_turns_11 : decode cX8_turns 11 = .ok (.ifCond .eq 12, 3) := by decide +kernel
theorem dX8_turns_14 : decode cX8_turns 14 = .ok (.iload_n 2, 1) := by decide +kernel
theorem dX8_turns_15 : decode cX8_turns 15 = .ok (.iconst 0, 1) := by decide +kernel
theorem dX8_turns_16 : decode cX8_turns 16 = .ok (.iconst 1, 1) := by decide +kernel
theorem dX8_turns_17 : decode cX8_turns 17 = .ok (.invokestatic 104, 3) := by decide +kernel
theorem dX8_turns_20 : decode cX8_turns 20 = .ok (.ifCond .ne 10, 3) := by decide +kernel
theorem dX8_turns_23 : decode cX8_turns 23 = .ok (.aload_n 0, 1) := by decide +kernel
theorem dX8_turns_24 : decode cX8_turns 24 = .ok (.bipush (-2), 2) := by decide +kernel
theorem dX8_turns_26 : decode cX8_turns 26 = .ok (.invokevirtual 80, 3) := by decide +kernel
theorem dX8_turns_29 : decode cX8_turns 29 = .ok (.ireturn, 1) := by decide +kernel
theorem dX8_turns_30 : decode cX8_turns 30 = .ok (.aload_n 0, 1) := by decide +kernel
theorem dX8_turns_31 : decode cX8_turns 31 = .ok (.getfield 10, 3) := by decide +kernel
theorem dX8_turns_34 : decode cX8_turns 34 = .ok (.getfield 87, 3) := by decide +kernel
theorem dX8_turns_37 : decode cX8_turns 37 = .ok (.aload_n 0, 1) := by decide +kernel
theorem dX8_turns_38 : decode cX8_turns 38 = .ok (.getfield 10, 3) := by decide +kernel
theorem dX8_turns_41 : decode cX8_turns 41 = .ok (.getfield 60, 3) := by decide +kernel
theorem dX8_turns_44 : decode cX8_turns 44 = .ok (.invokevirtual 123, 3) := by decide +kernel
theorem dX8_turns_47 : decode cX8_turns 47 = .ok (.aload_n 0, 1) := by decide +kernel
theorem dX8_turns_48 : decode cX8_turns 48 = .ok (.getfield 10, 3) := by decide +kernel
theorem dX8_turns_51 : decode cX8_turns 51 = .ok (.getfield 60, 3) := by decide +kernel
theorem dX8_turns_54 : decode cX8_turns 54 = .ok (.getfield 142, 3) := by decide +kernel
theorem dX8_turns_57 : decode cX8_turns 57 = .ok (.iload_n 1, 1) := by decide +kernel
theorem dX8_turns_58 : decode cX8_turns 58 = .ok (.iaload, 1) := by decide +kernel
theorem dX8_turns_59 : decode cX8_turns 59 = .ok (.istore_n 3, 1) := by decide +kernel
theorem dX8_turns_60 : decode cX8_turns 60 = .ok (.aload_n 0, 1) := by decide +kernel
theorem dX8_turns_61 : decode cX8_turns 61 = .ok (.getfield 10, 3) := by decide +kernel
theorem dX8_turns_64 : decode cX8_turns 64 = .ok (.getfield 60, 3) := by decide +kernel
theorem dX8_turns_67 : decode cX8_turns 67 = .ok (.getfield 142, 3) := by decide +kernel
theorem dX8_turns_70 : decode cX8_turns 70 = .ok (.iload_n 1, 1) := by decide +kernel
theorem dX8_turns_71 : decode cX8_turns 71 = .ok (.iload_n 2, 1) := by decide +kernel
theorem dX8_turns_72 : decode cX8_turns 72 = .ok (.iastore, 1) := by decide +kernel
theorem dX8_turns_73 : decode cX8_turns 73 = .ok (.iload_n 3, 1) := by decide +kernel
theorem dX8_turns_74 : decode cX8_turns 74 = .ok (.ireturn, 1) := by decide +kernel
theorem dX8_sends_0 : decode cX8_sends 0 = .ok (.aload_n 0, 1) := by decide +kernel
theorem dX8_sends_1 : decode cX8_sends 1 = .ok (.getfield 10, 3) := by decide +kernel
theorem dX8_sends_4 : decode cX8_sends 4 = .ok (.getfield 60, 3) := by decide +kernel
theorem dX8_sends_7 : decode cX8_sends 7 = .ok (.iload_n 1, 1) := by decide +kernel
theorem dX8_sends_8 : decode cX8_sends 8 = .ok (.invokevirtual 145, 3) := by decide +kernel
theorem dX8_sends_11 : decode cX8_sends 11 = .ok (.ifCond .eq 10, 3) := by decide +kernel
theorem dX8_sends_14 : decode cX8_sends 14 = .ok (.iload_n 2, 1) := by decide +kernel
theorem dX8_sends_15 : decode cX8_sends 15 = .ok (.invokestatic 74, 3) := by decide +kernel
theorem dX8_sends_18 : decode cX8_sends 18 = .ok (.ifCond .ne 10, 3) := by decide +kernel
theorem dX8_sends_21 : decode cX8_sends 21 = .ok (.aload_n 0, 1) := by decide +kernel
theorem dX8_sends_22 : decode cX8_sends 22 = .ok (.bipush (-2), 2) := by decide +kernel
theorem dX8_sends_24 : decode cX8_sends 24 = .ok (.invokevirtual 80, 3) := by decide +kernel
theorem dX8_sends_27 : decode cX8_sends 27 = .ok (.ireturn, 1) := by decide +kernel
theorem dX8_sends_28 : decode cX8_sends 28 = .ok (.aload_n 0, 1) := by decide +kernel
theorem dX8_sends_29 : decode cX8_sends 29 = .ok (.getfield 10, 3) := by decide +kernel
theorem dX8_sends_32 : decode cX8_sends 32 = .ok (.getfield 87, 3) := by decide +kernel
theorem dX8_sends_35 : decode cX8_sends 35 = .ok (.aload_n 0, 1) := by decide +kernel
theorem dX8_sends_36 : decode cX8_sends 36 = .ok (.getfield 10, 3) := by decide +kernel
theorem dX8_sends_39 : decode cX8_sends 39 = .ok (.getfield 60, 3) := by decide +kernel
theorem dX8_sends_42 : decode cX8_sends 42 = .ok (.invokevirtual 123, 3) := by decide +kernel
theorem dX8_sends_45 : decode cX8_sends 45 = .ok (.aload_n 0, 1) := by decide +kernel
theorem dX8_sends_46 : decode cX8_sends 46 = .ok (.getfield 10, 3) := by decide +kernel
theorem dX8_sends_49 : decode cX8_sends 49 = .ok (.getfield 60, 3) := by decide +kernel
theorem dX8_sends_52 : decode cX8_sends 52 = .ok (.getfield 148, 3) := by decide +kernel
theorem dX8_sends_55 : decode cX8_sends 55 = .ok (.iload_n 1, 1) := by decide +kernel
theorem dX8_sends_56 : decode cX8_sends 56 = .ok (.iaload, 1) := by decide +kernel
theorem dX8_sends_57 : decode cX8_sends 57 = .ok (.istore_n 3, 1) := by decide +kernel
theorem dX8_sends_58 : decode cX8_sends 58 = .ok (.aload_n 0, 1) := by decide +kernel
theorem dX8_sends_59 : decode cX8_sends 59 = .ok (.getfield 10, 3) := by decide +kernel
theorem dX8_sends_62 : decode cX8_sends 62 = .ok (.getfield 60, 3) := by decide +kernel
theorem dX8_sends_65 : decode cX8_sends 65 = .ok (.getfield 148, 3) := by decide +kernel
theorem dX8_sends_68 : decode cX8_sends 68 = .ok (.iload_n 1, 1) := by decide +kernel
theorem dX8_sends_69 : decode cX8_sends 69 = .ok (.iload_n 2, 1) := by decide +kernel
theorem dX8_sends_70 : decode cX8_sends 70 = .ok (.iastore, 1) := by decide +kernel
theorem dX8_sends_71 : decode cX8_sends 71 = .ok (.iload_n 3, 1) := by decide +kernel
theorem dX8_sends_72 : decode cX8_sends 72 = .ok (.ireturn, 1) := by decide +kernel
theorem dX8_undo_0 : decode cX8_undo 0 = .ok (.aload_n 0, 1) := by decide +kernel
theorem dX8_undo_1 : decode cX8_undo 1 = .ok (.getfield 10, 3) := by decide +kernel
theorem dX8_undo_4 : decode cX8_undo 4 = .ok (.getfield 87, 3) := by decide +kernel
theorem dX8_undo_7 : decode cX8_undo 7 = .ok (.getfield 91, 3) := by decide +kernel
theorem dX8_undo_10 : decode cX8_undo 10 = .ok (.ifCond .ne 10, 3) := by decide +kernel
theorem dX8_undo_13 : decode cX8_undo 13 = .ok (.aload_n 0, 1) := by decide +kernel
theorem dX8_undo_14 : decode cX8_undo 14 = .ok (.bipush (-3), 2) := by decide +kernel
theorem dX8_undo_16 : decode cX8_undo 16 = .ok (.invokevirtual 80, 3) := by decide +kernel
theorem dX8_undo_19 : decode cX8_undo 19 = .ok (.ireturn, 1) := by decide +kernel
theorem dX8_undo_20 : decode cX8_undo 20 = .ok (.aload_n 0, 1) := by decide +kernel
theorem dX8_undo_21 : decode cX8_undo 21 = .ok (.getfield 10, 3) := by decide +kernel
theorem dX8_undo_24 : decode cX8_undo 24 = .ok (.getfield 87, 3) := by decide +kernel
theorem dX8_undo_27 : decode cX8_undo 27 = .ok (.aload_n 0, 1) := by decide +kernel
theorem dX8_undo_28 : decode cX8_undo 28 = .ok (.getfield 10, 3) := by decide +kernel
theorem dX8_undo_31 : decode cX8_undo 31 = .ok (.getfield 60, 3) := by decide +kernel
theorem dX8_undo_34 : decode cX8_undo 34 = .ok (.invokevirtual 151, 3) := by decide +kernel
theorem dX8_undo_37 : decode cX8_undo 37 = .ok (.aload_n 0, 1) := by decide +kernel
theorem dX8_undo_38 : decode cX8_undo 38 = .ok (.getfield 10, 3) := by decide +kernel
theorem dX8_undo_41 : decode cX8_undo 41 = .ok (.getfield 60, 3) := by decide +kernel
theorem dX8_undo_44 : decode cX8_undo 44 = .ok (.getfield 133, 3) := by decide +kernel
theorem dX8_undo_47 : decode cX8_undo 47 = .ok (.ireturn, 1) := by decide +kernel
theorem dX8_of_0 : decode cX8_of 0 = .ok (.aload_n 0, 1) := by decide +kernel
theorem dX8_of_1 : decode cX8_of 1 = .ok (.getfield 10, 3) := by decide +kernel
theorem dX8_of_4 : decode cX8_of 4 = .ok (.getfield 60, 3) := by decide +kernel
theorem dX8_of_7 : decode cX8_of 7 = .ok (.iload_n 1, 1) := by decide +kernel
theorem dX8_of_8 : decode cX8_of 8 = .ok (.invokevirtual 136, 3) := by decide +kernel
theorem dX8_of_11 : decode cX8_of 11 = .ok (.ifCond .eq 12, 3) := by decide +kernel
theorem dX8_of_14 : decode cX8_of 14 = .ok (.iload_n 2, 1) := by decide +kernel
theorem dX8_of_15 : decode cX8_of 15 = .ok (.iconst 0, 1) := by decide +kernel
theorem dX8_of_16 : decode cX8_of 16 = .ok (.iconst 3, 1) := by decide +kernel
theorem dX8_of_17 : decode cX8_of 17 = .ok (.invokestatic 104, 3) := by decide +kernel
theorem dX8_of_20 : decode cX8_of 20 = .ok (.ifCond .ne 10, 3) := by decide +kernel
theorem dX8_of_23 : decode cX8_of 23 = .ok (.aload_n 0, 1) := by decide +kernel
theorem dX8_of_24 : decode cX8_of 24 = .ok (.bipush (-2), 2) := by decide +kernel
theorem dX8_of_26 : decode cX8_of 26 = .ok (.invokevirtual 80, 3) := by decide +kernel
theorem dX8_of_29 : decode cX8_of 29 = .ok (.ireturn, 1) := by decide +kernel
theorem dX8_of_30 : decode cX8_of 30 = .ok (.aload_n 0, 1) := by decide +kernel
theorem dX8_of_31 : decode cX8_of 31 = .ok (.getfield 10, 3) := by decide +kernel
theorem dX8_of_34 : decode cX8_of 34 = .ok (.getfield 60, 3) := by decide +kernel
theorem dX8_of_37 : decode cX8_of 37 = .ok (.iload_n 1, 1) := by decide +kernel
theorem dX8_of_38 : decode cX8_of 38 = .ok (.iload_n 2, 1) := by decide +kernel
theorem dX8_of_39 : decode cX8_of 39 = .ok (.invokevirtual 154, 3) := by decide +kernel
theorem dX8_of_42 : decode cX8_of 42 = .ok (.ireturn, 1) := by decide +kernel
theorem dX8_about_0 : decode cX8_about 0 = .ok (.aload_n 0, 1) := by decide +kernel
theorem dX8_about_1 : decode cX8_about 1 = .ok (.getfield 10, 3) := by decide +kernel
theorem dX8_about_4 : decode cX8_about 4 = .ok (.getfield 60, 3) := by decide +kernel
theorem dX8_about_7 : decode cX8_about 7 = .ok (.iload_n 1, 1) := by decide +kernel
theorem dX8_about_8 : decode cX8_about 8 = .ok (.invokevirtual 145, 3) := by decide +kernel
theorem dX8_about_11 : decode cX8_about 11 = .ok (.ifCond .eq 12, 3) := by decide +kernel
theorem dX8_about_14 : decode cX8_about 14 = .ok (.iload_n 2, 1) := by decide +kernel
theorem dX8_about_15 : decode cX8_about 15 = .ok (.iconst 0, 1) := by decide +kernel
theorem dX8_about_16 : decode cX8_about 16 = .ok (.iconst 2, 1) := by decide +kernel
theorem dX8_about_17 : decode cX8_about 17 = .ok (.invokestatic 104, 3) := by decide +kernel
theorem dX8_about_20 : decode cX8_about 20 = .ok (.ifCond .ne 10, 3) := by decide +kernel
theorem dX8_about_23 : decode cX8_about 23 = .ok (.aload_n 0, 1) := by decide +kernel
theorem dX8_about_24 : decode cX8_about 24 = .ok (.bipush (-2), 2) := by decide +kernel
theorem dX8_about_26 : decode cX8_about 26 = .ok (.invokevirtual 80, 3) := by decide +kernel
theorem dX8_about_29 : decode cX8_about 29 = .ok (.ireturn, 1) := by decide +kernel
theorem dX8_about_30 : decode cX8_about 30 = .ok (.aload_n 0, 1) := by decide +kernel
theorem dX8_about_31 : decode cX8_about 31 = .ok (.getfield 10, 3) := by decide +kernel
theorem dX8_about_34 : decode cX8_about 34 = .ok (.getfield 60, 3) := by decide +kernel
theorem dX8_about_37 : decode cX8_about 37 = .ok (.iload_n 1, 1) := by decide +kernel
theorem dX8_about_38 : decode cX8_about 38 = .ok (.iload_n 2, 1) := by decide +kernel
theorem dX8_about_39 : decode cX8_about 39 = .ok (.invokevirtual 157, 3) := by decide +kernel
theorem dX8_about_42 : decode cX8_about 42 = .ok (.ireturn, 1) := by decide +kernel
theorem dX8_pull_0 : decode cX8_pull 0 = .ok (.aload_n 0, 1) := by decide +kernel
theorem dX8_pull_1 : decode cX8_pull 1 = .ok (.getfield 10, 3) := by decide +kernel
theorem dX8_pull_4 : decode cX8_pull 4 = .ok (.getfield 60, 3) := by decide +kernel
theorem dX8_pull_7 : decode cX8_pull 7 = .ok (.iload_n 1, 1) := by decide +kernel
theorem dX8_pull_8 : decode cX8_pull 8 = .ok (.invokevirtual 136, 3) := by decide +kernel
theorem dX8_pull_11 : decode cX8_pull 11 = .ok (.ifCond .eq 17, 3) := by decide +kernel
theorem dX8_pull_14 : decode cX8_pull 14 = .ok (.aload_n 0, 1) := by decide +kernel
theorem dX8_pull_15 : decode cX8_pull 15 = .ok (.getfield 10, 3) := by decide +kernel
theorem dX8_pull_18 : decode cX8_pull 18 = .ok (.getfield 60, 3) := by decide +kernel
theorem dX8_pull_21 : decode cX8_pull 21 = .ok (.iload_n 2, 1) := by decide +kernel
theorem dX8_pull_22 : decode cX8_pull 22 = .ok (.invokevirtual 145, 3) := by decide +kernel
theorem dX8_pull_25 : decode cX8_pull 25 = .ok (.ifCond .ne 10, 3) := by decide +kernel
theorem dX8_pull_28 : decode cX8_pull 28 = .ok (.aload_n 0, 1) := by decide +kernel
theorem dX8_pull_29 : decode cX8_pull 29 = .ok (.bipush (-2), 2) := by decide +kernel
theorem dX8_pull_31 : decode cX8_pull 31 = .ok (.invokevirtual 80, 3) := by decide +kernel
theorem dX8_pull_34 : decode cX8_pull 34 = .ok (.ireturn, 1) := by decide +kernel
theorem dX8_pull_35 : decode cX8_pull 35 = .ok (.aload_n 0, 1) := by decide +kernel
theorem dX8_pull_36 : decode cX8_pull 36 = .ok (.getfield 10, 3) := by decide +kernel
theorem dX8_pull_39 : decode cX8_pull 39 = .ok (.getfield 60, 3) := by decide +kernel
theorem dX8_pull_42 : decode cX8_pull 42 = .ok (.iload_n 1, 1) := by decide +kernel
theorem dX8_pull_43 : decode cX8_pull 43 = .ok (.aload_n 0, 1) := by decide +kernel
theorem dX8_pull_44 : decode cX8_pull 44 = .ok (.getfield 10, 3) := by decide +kernel
theorem dX8_pull_47 : decode cX8_pull 47 = .ok (.getfield 60, 3) := by decide +kernel
theorem dX8_pull_50 : decode cX8_pull 50 = .ok (.getfield 148, 3) := by decide +kernel
theorem dX8_pull_53 : decode cX8_pull 53 = .ok (.iload_n 2, 1) := by decide +kernel
theorem dX8_pull_54 : decode cX8_pull 54 = .ok (.iaload, 1) := by decide +kernel
theorem dX8_pull_55 : decode cX8_pull 55 = .ok (.aload_n 0, 1) := by decide +kernel
theorem dX8_pull_56 : decode cX8_pull 56 = .ok (.getfield 10, 3) := by decide +kernel
theorem dX8_pull_59 : decode cX8_pull 59 = .ok (.getfield 60, 3) := by decide +kernel
theorem dX8_pull_62 : decode cX8_pull 62 = .ok (.iconst 0, 1) := by decide +kernel
theorem dX8_pull_63 : decode cX8_pull 63 = .ok (.invokevirtual 160, 3) := by decide +kernel
theorem dX8_pull_66 : decode cX8_pull 66 = .ok (.invokevirtual 163, 3) := by decide +kernel
theorem dX8_pull_69 : decode cX8_pull 69 = .ok (.ireturn, 1) := by decide +kernel
theorem dX8_drawn_0 : decode cX8_drawn 0 = .ok (.aload_n 0, 1) := by decide +kernel
theorem dX8_drawn_1 : decode cX8_drawn 1 = .ok (.getfield 10, 3) := by decide +kernel
theorem dX8_drawn_4 : decode cX8_drawn 4 = .ok (.getfield 60, 3) := by decide +kernel
theorem dX8_drawn_7 : decode cX8_drawn 7 = .ok (.iload_n 1, 1) := by decide +kernel
theorem dX8_drawn_8 : decode cX8_drawn 8 = .ok (.invokevirtual 145, 3) := by decide +kernel
theorem dX8_drawn_11 : decode cX8_drawn 11 = .ok (.ifCond .eq 12, 3) := by decide +kernel
theorem dX8_drawn_14 : decode cX8_drawn 14 = .ok (.iload_n 2, 1) := by decide +kernel
theorem dX8_drawn_15 : decode cX8_drawn 15 = .ok (.iconst 0, 1) := by decide +kernel
theorem dX8_drawn_16 : decode cX8_drawn 16 = .ok (.iconst 1, 1) := by decide +kernel
theorem dX8_drawn_17 : decode cX8_drawn 17 = .ok (.invokestatic 104, 3) := by decide +kernel
theorem dX8_drawn_20 : decode cX8_drawn 20 = .ok (.ifCond .ne 10, 3) := by decide +kernel
theorem dX8_drawn_23 : decode cX8_drawn 23 = .ok (.aload_n 0, 1) := by decide +kernel
theorem dX8_drawn_24 : decode cX8_drawn 24 = .ok (.bipush (-2), 2) := by decide +kernel
theorem dX8_drawn_26 : decode cX8_drawn 26 = .ok (.invokevirtual 80, 3) := by decide +kernel
theorem dX8_drawn_29 : decode cX8_drawn 29 = .ok (.ireturn, 1) := by decide +kernel
theorem dX8_drawn_30 : decode cX8_drawn 30 = .ok (.aload_n 0, 1) := by decide +kernel
theorem dX8_drawn_31 : decode cX8_drawn 31 = .ok (.getfield 10, 3) := by decide +kernel
theorem dX8_drawn_34 : decode cX8_drawn 34 = .ok (.getfield 60, 3) := by decide +kernel
theorem dX8_drawn_37 : decode cX8_drawn 37 = .ok (.invokevirtual 166, 3) := by decide +kernel
theorem dX8_drawn_40 : decode cX8_drawn 40 = .ok (.istore_n 3, 1) := by decide +kernel
theorem dX8_drawn_41 : decode cX8_drawn 41 = .ok (.aload_n 0, 1) := by decide +kernel
theorem dX8_drawn_42 : decode cX8_drawn 42 = .ok (.getfield 10, 3) := by decide +kernel
theorem dX8_drawn_45 : decode cX8_drawn 45 = .ok (.getfield 60, 3) := by decide +kernel
theorem dX8_drawn_48 : decode cX8_drawn 48 = .ok (.getfield 148, 3) := by decide +kernel
theorem dX8_drawn_51 : decode cX8_drawn 51 = .ok (.iload_n 1, 1) := by decide +kernel
theorem dX8_drawn_52 : decode cX8_drawn 52 = .ok (.iaload, 1) := by decide +kernel
theorem dX8_drawn_53 : decode cX8_drawn 53 = .ok (.istore 4, 2) := by decide +kernel
theorem dX8_drawn_55 : decode cX8_drawn 55 = .ok (.aload_n 0, 1) := by decide +kernel
theorem dX8_drawn_56 : decode cX8_drawn 56 = .ok (.getfield 10, 3) := by decide +kernel
theorem dX8_drawn_59 : decode cX8_drawn 59 = .ok (.getfield 60, 3) := by decide +kernel
theorem dX8_drawn_62 : decode cX8_drawn 62 = .ok (.iconst 0, 1) := by decide +kernel
theorem dX8_drawn_63 : decode cX8_drawn 63 = .ok (.invokevirtual 160, 3) := by decide +kernel
theorem dX8_drawn_66 : decode cX8_drawn 66 = .ok (.istore 5, 2) := by decide +kernel
theorem dX8_drawn_68 : decode cX8_drawn 68 = .ok (.iload_n 2, 1) := by decide +kernel
theorem dX8_drawn_69 : decode cX8_drawn 69 = .ok (.ifCond .ne 19, 3) := by decide +kernel
theorem dX8_drawn_72 : decode cX8_drawn 72 = .ok (.aload_n 0, 1) := by decide +kernel
theorem dX8_drawn_73 : decode cX8_drawn 73 = .ok (.getfield 10, 3) := by decide +kernel
theorem dX8_drawn_76 : decode cX8_drawn 76 = .ok (.getfield 60, 3) := by decide +kernel
theorem dX8_drawn_79 : decode cX8_drawn 79 = .ok (.iload_n 3, 1) := by decide +kernel
theorem dX8_drawn_80 : decode cX8_drawn 80 = .ok (.iload 4, 2) := by decide +kernel
theorem dX8_drawn_82 : decode cX8_drawn 82 = .ok (.iload 5, 2) := by decide +kernel
theorem dX8_drawn_84 : decode cX8_drawn 84 = .ok (.invokevirtual 170, 3) := by decide +kernel
theorem dX8_drawn_87 : decode cX8_drawn 87 = .ok (.ireturn, 1) := by decide +kernel
theorem dX8_drawn_88 : decode cX8_drawn 88 = .ok (.aload_n 0, 1) := by decide +kernel
theorem dX8_drawn_89 : decode cX8_drawn 89 = .ok (.getfield 10, 3) := by decide +kernel
theorem dX8_drawn_92 : decode cX8_drawn 92 = .ok (.getfield 60, 3) := by decide +kernel
theorem dX8_drawn_95 : decode cX8_drawn 95 = .ok (.getfield 173, 3) := by decide +kernel
theorem dX8_drawn_98 : decode cX8_drawn 98 = .ok (.iload_n 1, 1) := by decide +kernel
theorem dX8_drawn_99 : decode cX8_drawn 99 = .ok (.iaload, 1) := by decide +kernel
theorem dX8_drawn_100 : decode cX8_drawn 100 = .ok (.aload_n 0, 1) := by decide +kernel
theorem dX8_drawn_101 : decode cX8_drawn 101 = .ok (.getfield 10, 3) := by decide +kernel
theorem dX8_drawn_104 : decode cX8_drawn 104 = .ok (.getfield 60, 3) := by decide +kernel
theorem dX8_drawn_107 : decode cX8_drawn 107 = .ok (.iload_n 3, 1) := by decide +kernel
theorem dX8_drawn_108 : decode cX8_drawn 108 = .ok (.iload 4, 2) := by decide +kernel
theorem dX8_drawn_110 : decode cX8_drawn 110 = .ok (.iload 5, 2) := by decide +kernel
theorem dX8_drawn_112 : decode cX8_drawn 112 = .ok (.invokevirtual 176, 3) := by decide +kernel
theorem dX8_drawn_115 : decode cX8_drawn 115 = .ok (.invokestatic 179, 3) := by decide +kernel
theorem dX8_drawn_118 : decode cX8_drawn 118 = .ok (.ireturn, 1) := by decide +kernel
theorem dX8_sees_0 : decode cX8_sees 0 = .ok (.iload_n 1, 1) := by decide +kernel
theorem dX8_sees_1 : decode cX8_sees 1 = .ok (.iconst (-1), 1) := by decide +kernel
theorem dX8_sees_2 : decode cX8_sees 2 = .ok (.if_icmp .eq 17, 3) := by decide +kernel
theorem dX8_sees_5 : decode cX8_sees 5 = .ok (.aload_n 0, 1) := by decide +kernel
theorem dX8_sees_6 : decode cX8_sees 6 = .ok (.getfield 10, 3) := by decide +kernel
theorem dX8_sees_9 : decode cX8_sees 9 = .ok (.getfield 60, 3) := by decide +kernel
theorem dX8_sees_12 : decode cX8_sees 12 = .ok (.iload_n 1, 1) := by decide +kernel
theorem dX8_sees_13 : decode cX8_sees 13 = .ok (.invokevirtual 145, 3) := by decide +kernel
theorem dX8_sees_16 : decode cX8_sees 16 = .ok (.ifCond .eq 10, 3) := by decide +kernel
theorem dX8_sees_19 : decode cX8_sees 19 = .ok (.iload_n 2, 1) := by decide +kernel
theorem dX8_sees_20 : decode cX8_sees 20 = .ok (.invokestatic 74, 3) := by decide +kernel
theorem dX8_sees_23 : decode cX8_sees 23 = .ok (.ifCond .ne 10, 3) := by decide +kernel
theorem dX8_sees_26 : decode cX8_sees 26 = .ok (.aload_n 0, 1) := by decide +kernel
theorem dX8_sees_27 : decode cX8_sees 27 = .ok (.bipush (-2), 2) := by decide +kernel
theorem dX8_sees_29 : decode cX8_sees 29 = .ok (.invokevirtual 80, 3) := by decide +kernel
theorem dX8_sees_32 : decode cX8_sees 32 = .ok (.ireturn, 1) := by decide +kernel
theorem dX8_sees_33 : decode cX8_sees 33 = .ok (.aload_n 0, 1) := by decide +kernel
theorem dX8_sees_34 : decode cX8_sees 34 = .ok (.getfield 34, 3) := by decide +kernel
theorem dX8_sees_37 : decode cX8_sees 37 = .ok (.aload_n 0, 1) := by decide +kernel
theorem dX8_sees_38 : decode cX8_sees 38 = .ok (.getfield 10, 3) := by decide +kernel
theorem dX8_sees_41 : decode cX8_sees 41 = .ok (.getfield 60, 3) := by decide +kernel
theorem dX8_sees_44 : decode cX8_sees 44 = .ok (.iload_n 2, 1) := by decide +kernel
theorem dX8_sees_45 : decode cX8_sees 45 = .ok (.aload_n 0, 1) := by decide +kernel
theorem dX8_sees_46 : decode cX8_sees 46 = .ok (.getfield 10, 3) := by decide +kernel
theorem dX8_sees_49 : decode cX8_sees 49 = .ok (.getfield 60, 3) := by decide +kernel
theorem dX8_sees_52 : decode cX8_sees 52 = .ok (.iconst 0, 1) := by decide +kernel
theorem dX8_sees_53 : decode cX8_sees 53 = .ok (.invokevirtual 160, 3) := by decide +kernel
theorem dX8_sees_56 : decode cX8_sees 56 = .ok (.invokevirtual 184, 3) := by decide +kernel
theorem dX8_sees_59 : decode cX8_sees 59 = .ok (.istore_n 3, 1) := by decide +kernel
theorem dX8_sees_60 : decode cX8_sees 60 = .ok (.iload_n 1, 1) := by decide +kernel
theorem dX8_sees_61 : decode cX8_sees 61 = .ok (.iconst (-1), 1) := by decide +kernel
theorem dX8_sees_62 : decode cX8_sees 62 = .ok (.if_icmp .ne 7, 3) := by decide +kernel
theorem dX8_sees_65 : decode cX8_sees 65 = .ok (.iload_n 3, 1) := by decide +kernel
theorem dX8_sees_66 : decode cX8_sees 66 = .ok (.goto 8, 3) := by decide +kernel
theorem dX8_sees_69 : decode cX8_sees 69 = .ok (.iload_n 3, 1) := by decide +kernel
theorem dX8_sees_70 : decode cX8_sees 70 = .ok (.iload_n 1, 1) := by decide +kernel
theorem dX8_sees_71 : decode cX8_sees 71 = .ok (.ishr, 1) := by decide +kernel
theorem dX8_sees_72 : decode cX8_sees 72 = .ok (.iconst 1, 1) := by decide +kernel
theorem dX8_sees_73 : decode cX8_sees 73 = .ok (.iand, 1) := by decide +kernel
theorem dX8_sees_74 : decode cX8_sees 74 = .ok (.ireturn, 1) := by decide +kernel
theorem dX8_unseen_0 : decode cX8_unseen 0 = .ok (.iload_n 1, 1) := by decide +kernel
theorem dX8_unseen_1 : decode cX8_unseen 1 = .ok (.invokestatic 188, 3) := by decide +kernel
theorem dX8_unseen_4 : decode cX8_unseen 4 = .ok (.ifCond .ne 10, 3) := by decide +kernel
theorem dX8_unseen_7 : decode cX8_unseen 7 = .ok (.aload_n 0, 1) := by decide +kernel
theorem dX8_unseen_8 : decode cX8_unseen 8 = .ok (.bipush (-2), 2) := by decide +kernel
theorem dX8_unseen_10 : decode cX8_unseen 10 = .ok (.invokevirtual 80, 3) := by decide +kernel
theorem dX8_unseen_13 : decode cX8_unseen 13 = .ok (.ireturn, 1) := by decide +kernel
theorem dX8_unseen_14 : decode cX8_unseen 14 = .ok (.aload_n 0, 1) := by decide +kernel
theorem dX8_unseen_15 : decode cX8_unseen 15 = .ok (.getfield 34, 3) := by decide +kernel
theorem dX8_unseen_18 : decode cX8_unseen 18 = .ok (.aload_n 0, 1) := by decide +kernel
theorem dX8_unseen_19 : decode cX8_unseen 19 = .ok (.getfield 10, 3) := by decide +kernel
theorem dX8_unseen_22 : decode cX8_unseen 22 = .ok (.getfield 60, 3) := by decide +kernel
theorem dX8_unseen_25 : decode cX8_unseen 25 = .ok (.aload_n 0, 1) := by decide +kernel
theorem dX8_unseen_26 : decode cX8_unseen 26 = .ok (.getfield 10, 3) := by decide +kernel
theorem dX8_unseen_29 : decode cX8_unseen 29 = .ok (.getfield 60, 3) := by decide +kernel
theorem dX8_unseen_32 : decode cX8_unseen 32 = .ok (.invokevirtual 166, 3) := by decide +kernel
theorem dX8_unseen_35 : decode cX8_unseen 35 = .ok (.iload_n 1, 1) := by decide +kernel
theorem dX8_unseen_36 : decode cX8_unseen 36 = .ok (.invokevirtual 191, 3) := by decide +kernel
theorem dX8_unseen_39 : decode cX8_unseen 39 = .ok (.iconst 0, 1) := by decide +kernel
theorem dX8_unseen_40 : decode cX8_unseen 40 = .ok (.istore_n 2, 1) := by decide +kernel
theorem dX8_unseen_41 : decode cX8_unseen 41 = .ok (.iconst 0, 1) := by decide +kernel
theorem dX8_unseen_42 : decode cX8_unseen 42 = .ok (.istore_n 3, 1) := by decide +kernel
theorem dX8_unseen_43 : decode cX8_unseen 43 = .ok (.iload_n 3, 1) := by decide +kernel
theorem dX8_unseen_44 : decode cX8_unseen 44 = .ok (.bipush 30, 2) := by decide +kernel
theorem dX8_unseen_46 : decode cX8_unseen 46 = .ok (.if_icmp .ge 33, 3) := by decide +kernel
theorem dX8_unseen_49 : decode cX8_unseen 49 = .ok (.aload_n 0, 1) := by decide +kernel
theorem dX8_unseen_50 : decode cX8_unseen 50 = .ok (.getfield 34, 3) := by decide +kernel
theorem dX8_unseen_53 : decode cX8_unseen 53 = .ok (.aload_n 0, 1) := by decide +kernel
theorem dX8_unseen_54 : decode cX8_unseen 54 = .ok (.getfield 10, 3) := by decide +kernel
theorem dX8_unseen_57 : decode cX8_unseen 57 = .ok (.getfield 60, 3) := by decide +kernel
theorem dX8_unseen_60 : decode cX8_unseen 60 = .ok (.iload_n 3, 1) := by decide +kernel
theorem dX8_unseen_61 : decode cX8_unseen 61 = .ok (.invokevirtual 195, 3) := by decide +kernel
theorem dX8_unseen_64 : decode cX8_unseen 64 = .ok (.ifCond .ne 9, 3) := by decide +kernel
theorem dX8_unseen_67 : decode cX8_unseen 67 = .ok (.iload_n 2, 1) := by decide +kernel
theorem dX8_unseen_68 : decode cX8_unseen 68 = .ok (.iconst 1, 1) := by decide +kernel
theorem dX8_unseen_69 : decode cX8_unseen 69 = .ok (.iload_n 3, 1) := by decide +kernel
theorem dX8_unseen_70 : decode cX8_unseen 70 = .ok (.ishl, 1) := by decide +kernel
theorem dX8_unseen_71 : decode cX8_unseen 71 = .ok (.ior, 1) := by decide +kernel
theorem dX8_unseen_72 : decode cX8_unseen 72 = .ok (.istore_n 2, 1) := by decide +kernel
theorem dX8_unseen_73 : decode cX8_unseen 73 = .ok (.iinc 3 1, 3) := by decide +kernel
theorem dX8_unseen_76 : decode cX8_unseen 76 = .ok (.goto (-33), 3) := by decide +kernel
theorem dX8_unseen_79 : decode cX8_unseen 79 = .ok (.iload_n 2, 1) := by decide +kernel
theorem dX8_unseen_80 : decode cX8_unseen 80 = .ok (.ireturn, 1) := by decide +kernel
theorem dX8_when_0 : decode cX8_when 0 = .ok (.iload_n 1, 1) := by decide +kernel
theorem dX8_when_1 : decode cX8_when 1 = .ok (.invokestatic 74, 3) := by decide +kernel
theorem dX8_when_4 : decode cX8_when 4 = .ok (.ifCond .ne 10, 3) := by decide +kernel
theorem dX8_when_7 : decode cX8_when 7 = .ok (.aload_n 0, 1) := by decide +kernel
theorem dX8_when_8 : decode cX8_when 8 = .ok (.bipush (-2), 2) := by decide +kernel
theorem dX8_when_10 : decode cX8_when 10 = .ok (.invokevirtual 80, 3) := by decide +kernel
theorem dX8_when_13 : decode cX8_when 13 = .ok (.ireturn, 1) := by decide +kernel
theorem dX8_when_14 : decode cX8_when 14 = .ok (.aload_n 0, 1) := by decide +kernel
theorem dX8_when_15 : decode cX8_when 15 = .ok (.getfield 34, 3) := by decide +kernel
theorem dX8_when_18 : decode cX8_when 18 = .ok (.aload_n 0, 1) := by decide +kernel
theorem dX8_when_19 : decode cX8_when 19 = .ok (.getfield 10, 3) := by decide +kernel
theorem dX8_when_22 : decode cX8_when 22 = .ok (.getfield 60, 3) := by decide +kernel
theorem dX8_when_25 : decode cX8_when 25 = .ok (.iload_n 1, 1) := by decide +kernel
theorem dX8_when_26 : decode cX8_when 26 = .ok (.invokevirtual 198, 3) := by decide +kernel
theorem dX8_when_29 : decode cX8_when 29 = .ok (.istore_n 2, 1) := by decide +kernel
theorem dX8_when_30 : decode cX8_when 30 = .ok (.iload_n 2, 1) := by decide +kernel
theorem dX8_when_31 : decode cX8_when 31 = .ok (.ifCond .ne 7, 3) := by decide +kernel
theorem dX8_when_34 : decode cX8_when 34 = .ok (.iconst (-1), 1) := by decide +kernel
theorem dX8_when_35 : decode cX8_when 35 = .ok (.goto 7, 3) := by decide +kernel
theorem dX8_when_38 : decode cX8_when 38 = .ok (.iload_n 2, 1) := by decide +kernel
theorem dX8_when_39 : decode cX8_when 39 = .ok (.invokestatic 201, 3) := by decide +kernel
theorem dX8_when_42 : decode cX8_when 42 = .ok (.ireturn, 1) := by decide +kernel
theorem dX8_enough_0 : decode cX8_enough 0 = .ok (.iload_n 1, 1) := by decide +kernel
theorem dX8_enough_1 : decode cX8_enough 1 = .ok (.invokestatic 74, 3) := by decide +kernel
theorem dX8_enough_4 : decode cX8_enough 4 = .ok (.ifCond .ne 10, 3) := by decide +kernel
theorem dX8_enough_7 : decode cX8_enough 7 = .ok (.aload_n 0, 1) := by decide +kernel
theorem dX8_enough_8 : decode cX8_enough 8 = .ok (.bipush (-2), 2) := by decide +kernel
theorem dX8_enough_10 : decode cX8_enough 10 = .ok (.invokevirtual 80, 3) := by decide +kernel
theorem dX8_enough_13 : decode cX8_enough 13 = .ok (.ireturn, 1) := by decide +kernel
theorem dX8_enough_14 : decode cX8_enough 14 = .ok (.iconst (-1), 1) := by decide +kernel
theorem dX8_enough_15 : decode cX8_enough 15 = .ok (.istore_n 2, 1) := by decide +kernel
theorem dX8_enough_16 : decode cX8_enough 16 = .ok (.bipush 6, 2) := by decide +kernel
theorem dX8_enough_18 : decode cX8_enough 18 = .ok (.istore_n 3, 1) := by decide +kernel
theorem dX8_enough_19 : decode cX8_enough 19 = .ok (.aload_n 0, 1) := by decide +kernel
theorem dX8_enough_20 : decode cX8_enough 20 = .ok (.getfield 10, 3) := by decide +kernel
theorem dX8_enough_23 : decode cX8_enough 23 = .ok (.getfield 60, 3) := by decide +kernel
theorem dX8_enough_26 : decode cX8_enough 26 = .ok (.iconst 0, 1) := by decide +kernel
theorem dX8_enough_27 : decode cX8_enough 27 = .ok (.invokevirtual 160, 3) := by decide +kernel
theorem dX8_enough_30 : decode cX8_enough 30 = .ok (.istore 4, 2) := by decide +kernel
theorem dX8_enough_32 : decode cX8_enough 32 = .ok (.iconst 0, 1) := by decide +kernel
theorem dX8_enough_33 : decode cX8_enough 33 = .ok (.istore 5, 2) := by decide +kernel
theorem dX8_enough_35 : decode cX8_enough 35 = .ok (.iload 5, 2) := by decide +kernel
theorem dX8_enough_37 : decode cX8_enough 37 = .ok (.iconst 1, 1) := by decide +kernel
theorem dX8_enough_38 : decode cX8_enough 38 = .ok (.aload_n 0, 1) := by decide +kernel
theorem dX8_enough_39 : decode cX8_enough 39 = .ok (.getfield 10, 3) := by decide +kernel
theorem dX8_enough_42 : decode cX8_enough 42 = .ok (.getfield 60, 3) := by decide +kernel
theorem dX8_enough_45 : decode cX8_enough 45 = .ok (.getfield 84, 3) := by decide +kernel
theorem dX8_enough_48 : decode cX8_enough 48 = .ok (.ishl, 1) := by decide +kernel
theorem dX8_enough_49 : decode cX8_enough 49 = .ok (.if_icmp .ge 66, 3) := by decide +kernel
theorem dX8_enough_52 : decode cX8_enough 52 = .ok (.iload 5, 2) := by decide +kernel
theorem dX8_enough_54 : decode cX8_enough 54 = .ok (.invokestatic 206, 3) := by decide +kernel
theorem dX8_enough_57 : decode cX8_enough 57 = .ok (.iload_n 3, 1) := by decide +kernel
theorem dX8_enough_58 : decode cX8_enough 58 = .ok (.if_icmp .lt 6, 3) := by decide +kernel
theorem dX8_enough_61 : decode cX8_enough 61 = .ok (.goto 48, 3) := by decide +kernel
theorem dX8_enough_64 : decode cX8_enough 64 = .ok (.aload_n 0, 1) := by decide +kernel
theorem dX8_enough_65 : decode cX8_enough 65 = .ok (.getfield 34, 3) := by decide +kernel
theorem dX8_enough_68 : decode cX8_enough 68 = .ok (.aload_n 0, 1) := by decide +kernel
theorem dX8_enough_69 : decode cX8_enough 69 = .ok (.getfield 10, 3) := by decide +kernel
theorem dX8_enough_72 : decode cX8_enough 72 = .ok (.getfield 60, 3) := by decide +kernel
theorem dX8_enough_75 : decode cX8_enough 75 = .ok (.iload 5, 2) := by decide +kernel
theorem dX8_enough_77 : decode cX8_enough 77 = .ok (.iload 4, 2) := by decide +kernel
theorem dX8_enough_79 : decode cX8_enough 79 = .ok (.invokevirtual 191, 3) := by decide +kernel
theorem dX8_enough_82 : decode cX8_enough 82 = .ok (.aload_n 0, 1) := by decide +kernel
theorem dX8_enough_83 : decode cX8_enough 83 = .ok (.getfield 34, 3) := by decide +kernel
theorem dX8_enough_86 : decode cX8_enough 86 = .ok (.aload_n 0, 1) := by decide +kernel
theorem dX8_enough_87 : decode cX8_enough 87 = .ok (.getfield 10, 3) := by decide +kernel
theorem dX8_enough_90 : decode cX8_enough 90 = .ok (.getfield 60, 3) := by decide +kernel
theorem dX8_enough_93 : decode cX8_enough 93 = .ok (.iload_n 1, 1) := by decide +kernel
theorem dX8_enough_94 : decode cX8_enough 94 = .ok (.invokevirtual 195, 3) := by decide +kernel
theorem dX8_enough_97 : decode cX8_enough 97 = .ok (.ifCond .ne 12, 3) := by decide +kernel
theorem dX8_enough_100 : decode cX8_enough 100 = .ok (.iload 5, 2) := by decide +kernel
theorem dX8_enough_102 : decode cX8_enough 102 = .ok (.istore_n 2, 1) := by decide +kernel
theorem dX8_enough_103 : decode cX8_enough 103 = .ok (.iload 5, 2) := by decide +kernel
theorem dX8_enough_105 : decode cX8_enough 105 = .ok (.invokestatic 206, 3) := by decide +kernel
theorem dX8_enough_108 : decode cX8_enough 108 = .ok (.istore_n 3, 1) := by decide +kernel
theorem dX8_enough_109 : decode cX8_enough 109 = .ok (.iinc 5 1, 3) := by decide +kernel
theorem dX8_enough_112 : decode cX8_enough 112 = .ok (.goto (-77), 3) := by decide +kernel
theorem dX8_enough_115 : decode cX8_enough 115 = .ok (.iload_n 2, 1) := by decide +kernel
theorem dX8_enough_116 : decode cX8_enough 116 = .ok (.ireturn, 1) := by decide +kernel
theorem dX8_place_0 : decode cX8_place 0 = .ok (.aload_n 0, 1) := by decide +kernel
theorem dX8_place_1 : decode cX8_place 1 = .ok (.getfield 10, 3) := by decide +kernel
theorem dX8_place_4 : decode cX8_place 4 = .ok (.getfield 60, 3) := by decide +kernel
theorem dX8_place_7 : decode cX8_place 7 = .ok (.iload_n 1, 1) := by decide +kernel
theorem dX8_place_8 : decode cX8_place 8 = .ok (.invokevirtual 136, 3) := by decide +kernel
theorem dX8_place_11 : decode cX8_place 11 = .ok (.ifCond .eq 19, 3) := by decide +kernel
theorem dX8_place_14 : decode cX8_place 14 = .ok (.iload_n 2, 1) := by decide +kernel
theorem dX8_place_15 : decode cX8_place 15 = .ok (.invokestatic 74, 3) := by decide +kernel
theorem dX8_place_18 : decode cX8_place 18 = .ok (.ifCond .eq 12, 3) := by decide +kernel
theorem dX8_place_21 : decode cX8_place 21 = .ok (.iload_n 3, 1) := by decide +kernel
theorem dX8_place_22 : decode cX8_place 22 = .ok (.iconst 0, 1) := by decide +kernel
theorem dX8_place_23 : decode cX8_place 23 = .ok (.iconst 1, 1) := by decide +kernel
theorem dX8_place_24 : decode cX8_place 24 = .ok (.invokestatic 104, 3) := by decide +kernel
theorem dX8_place_27 : decode cX8_place 27 = .ok (.ifCond .ne 10, 3) := by decide +kernel
theorem dX8_place_30 : decode cX8_place 30 = .ok (.aload_n 0, 1) := by decide +kernel
theorem dX8_place_31 : decode cX8_place 31 = .ok (.bipush (-2), 2) := by decide +kernel
theorem dX8_place_33 : decode cX8_place 33 = .ok (.invokevirtual 80, 3) := by decide +kernel
theorem dX8_place_36 : decode cX8_place 36 = .ok (.ireturn, 1) := by decide +kernel
theorem dX8_place_37 : decode cX8_place 37 = .ok (.iconst (-1), 1) := by decide +kernel
theorem dX8_place_38 : decode cX8_place 38 = .ok (.istore 4, 2) := by decide +kernel
theorem dX8_place_40 : decode cX8_place 40 = .ok (.bipush 7, 2) := by decide +kernel
theorem dX8_place_42 : decode cX8_place 42 = .ok (.istore 5, 2) := by decide +kernel
theorem dX8_place_44 : decode cX8_place 44 = .ok (.iconst 0, 1) := by decide +kernel
theorem dX8_place_45 : decode cX8_place 45 = .ok (.istore 6, 2) := by decide +kernel
theorem dX8_place_47 : decode cX8_place 47 = .ok (.iload 6, 2) := by decide +kernel
theorem dX8_place_49 : decode cX8_place 49 = .ok (.bipush 30, 2) := by decide +kernel
theorem dX8_place_51 : decode cX8_place 51 = .ok (.if_icmp .ge 47, 3) := by decide +kernel
theorem dX8_place_54 : decode cX8_place 54 = .ok (.aload_n 0, 1) := by decide +kernel
theorem dX8_place_55 : decode cX8_place 55 = .ok (.getfield 34, 3) := by decide +kernel
theorem dX8_place_58 : decode cX8_place 58 = .ok (.aload_n 0, 1) := by decide +kernel
theorem dX8_place_59 : decode cX8_place 59 = .ok (.getfield 10, 3) := by decide +kernel
theorem dX8_place_62 : decode cX8_place 62 = .ok (.getfield 60, 3) := by decide +kernel
theorem dX8_place_65 : decode cX8_place 65 = .ok (.iload_n 2, 1) := by decide +kernel
theorem dX8_place_66 : decode cX8_place 66 = .ok (.iload_n 1, 1) := by decide +kernel
theorem dX8_place_67 : decode cX8_place 67 = .ok (.iload 6, 2) := by decide +kernel
theorem dX8_place_69 : decode cX8_place 69 = .ok (.invokevirtual 209, 3) := by decide +kernel
theorem dX8_place_72 : decode cX8_place 72 = .ok (.invokestatic 206, 3) := by decide +kernel
theorem dX8_place_75 : decode cX8_place 75 = .ok (.istore 7, 2) := by decide +kernel
theorem dX8_place_77 : decode cX8_place 77 = .ok (.iload 7, 2) := by decide +kernel
theorem dX8_place_79 : decode cX8_place 79 = .ok (.iload 5, 2) := by decide +kernel
theorem dX8_place_81 : decode cX8_place 81 = .ok (.if_icmp .ge 11, 3) := by decide +kernel
theorem dX8_place_84 : decode cX8_place 84 = .ok (.iload 7, 2) := by decide +kernel
theorem dX8_place_86 : decode cX8_place 86 = .ok (.istore 5, 2) := by decide +kernel
theorem dX8_place_88 : decode cX8_place 88 = .ok (.iload 6, 2) := by decide +kernel
theorem dX8_place_90 : decode cX8_place 90 = .ok (.istore 4, 2) := by decide +kernel
theorem dX8_place_92 : decode cX8_place 92 = .ok (.iinc 6 1, 3) := by decide +kernel
theorem dX8_place_95 : decode cX8_place 95 = .ok (.goto (-48), 3) := by decide +kernel
theorem dX8_place_98 : decode cX8_place 98 = .ok (.iload_n 3, 1) := by decide +kernel
theorem dX8_place_99 : decode cX8_place 99 = .ok (.ifCond .ne 8, 3) := by decide +kernel
theorem dX8_place_102 : decode cX8_place 102 = .ok (.iload 4, 2) := by decide +kernel
theorem dX8_place_104 : decode cX8_place 104 = .ok (.goto 5, 3) := by decide +kernel
theorem dX8_place_107 : decode cX8_place 107 = .ok (.iload 5, 2) := by decide +kernel
theorem dX8_place_109 : decode cX8_place 109 = .ok (.ireturn, 1) := by decide +kernel
theorem dX8_plan_0 : decode cX8_plan 0 = .ok (.iload_n 1, 1) := by decide +kernel
theorem dX8_plan_1 : decode cX8_plan 1 = .ok (.invokestatic 213, 3) := by decide +kernel
theorem dX8_plan_4 : decode cX8_plan 4 = .ok (.istore_n 3, 1) := by decide +kernel
theorem dX8_plan_5 : decode cX8_plan 5 = .ok (.iload_n 3, 1) := by decide +kernel
theorem dX8_plan_6 : decode cX8_plan 6 = .ok (.ifCond .eq 8, 3) := by decide +kernel
theorem dX8_plan_9 : decode cX8_plan 9 = .ok (.iload_n 2, 1) := by decide +kernel
theorem dX8_plan_10 : decode cX8_plan 10 = .ok (.iconst (-1), 1) := by decide +kernel
theorem dX8_plan_11 : decode cX8_plan 11 = .ok (.if_icmp .ge 13, 3) := by decide +kernel
theorem dX8_plan_14 : decode cX8_plan 14 = .ok (.aload_n 0, 1) := by decide +kernel
theorem dX8_plan_15 : decode cX8_plan 15 = .ok (.bipush (-2), 2) := by decide +kernel
theorem dX8_plan_17 : decode cX8_plan 17 = .ok (.invokevirtual 80, 3) := by decide +kernel
theorem dX8_plan_20 : decode cX8_plan 20 = .ok (.pop, 1) := by decide +kernel
theorem dX8_plan_21 : decode cX8_plan 21 = .ok (.bipush (-10), 2) := by decide +kernel
theorem dX8_plan_23 : decode cX8_plan 23 = .ok (.ireturn, 1) := by decide +kernel
theorem dX8_plan_24 : decode cX8_plan 24 = .ok (.aload_n 0, 1) := by decide +kernel
theorem dX8_plan_25 : decode cX8_plan 25 = .ok (.getfield 48, 3) := by decide +kernel
theorem dX8_plan_28 : decode cX8_plan 28 = .ok (.iload_n 3, 1) := by decide +kernel
theorem dX8_plan_29 : decode cX8_plan 29 = .ok (.putfield 216, 3) := by decide +kernel
theorem dX8_plan_32 : decode cX8_plan 32 = .ok (.iload_n 1, 1) := by decide +kernel
theorem dX8_plan_33 : decode cX8_plan 33 = .ok (.istore 4, 2) := by decide +kernel
theorem dX8_plan_35 : decode cX8_plan 35 = .ok (.iload_n 3, 1) := by decide +kernel
theorem dX8_plan_36 : decode cX8_plan 36 = .ok (.iconst 1, 1) := by decide +kernel
theorem dX8_plan_37 : decode cX8_plan 37 = .ok (.isub, 1) := by decide +kernel
theorem dX8_plan_38 : decode cX8_plan 38 = .ok (.istore 5, 2) := by decide +kernel
theorem dX8_plan_40 : decode cX8_plan 40 = .ok (.iload 5, 2) := by decide +kernel
theorem dX8_plan_42 : decode cX8_plan 42 = .ok (.ifCond .lt 47, 3) := by decide +kernel
theorem dX8_plan_45 : decode cX8_plan 45 = .ok (.aload_n 0, 1) := by decide +kernel
theorem dX8_plan_46 : decode cX8_plan 46 = .ok (.getfield 48, 3) := by decide +kernel
theorem dX8_plan_49 : decode cX8_plan 49 = .ok (.iload 5, 2) := by decide +kernel
theorem dX8_plan_51 : decode cX8_plan 51 = .ok (.aload_n 0, 1) := by decide +kernel
theorem dX8_plan_52 : decode cX8_plan 52 = .ok (.getfield 34, 3) := by decide +kernel
theorem dX8_plan_55 : decode cX8_plan 55 = .ok (.aload_n 0, 1) := by decide +kernel
theorem dX8_plan_56 : decode cX8_plan 56 = .ok (.getfield 10, 3) := by decide +kernel
theorem dX8_plan_59 : decode cX8_plan 59 = .ok (.getfield 60, 3) := by decide +kernel
theorem dX8_plan_62 : decode cX8_plan 62 = .ok (.iload 4, 2) := by decide +kernel
theorem dX8_plan_64 : decode cX8_plan 64 = .ok (.bipush 100, 2) := by decide +kernel
theorem dX8_plan_66 : decode cX8_plan 66 = .ok (.irem, 1) := by decide +kernel
theorem dX8_plan_67 : decode cX8_plan 67 = .ok (.bipush 11, 2) := by decide +kernel
theorem dX8_plan_69 : decode cX8_plan 69 = .ok (.isub, 1) := by decide +kernel
theorem dX8_plan_70 : decode cX8_plan 70 = .ok (.invokevirtual 198, 3) := by decide +kernel
theorem dX8_plan_73 : decode cX8_plan 73 = .ok (.invokevirtual 219, 3) := by decide +kernel
theorem dX8_plan_76 : decode cX8_plan 76 = .ok (.iload 4, 2) := by decide +kernel
theorem dX8_plan_78 : decode cX8_plan 78 = .ok (.bipush 100, 2) := by decide +kernel
theorem dX8_plan_80 : decode cX8_plan 80 = .ok (.idiv, 1) := by decide +kernel
theorem dX8_plan_81 : decode cX8_plan 81 = .ok (.istore 4, 2) := by decide +kernel
theorem dX8_plan_83 : decode cX8_plan 83 = .ok (.iinc 5 (-1), 3) := by decide +kernel
theorem dX8_plan_86 : decode cX8_plan 86 = .ok (.goto (-46), 3) := by decide +kernel
theorem dX8_plan_89 : decode cX8_plan 89 = .ok (.aload_n 0, 1) := by decide +kernel
theorem dX8_plan_90 : decode cX8_plan 90 = .ok (.getfield 48, 3) := by decide +kernel
theorem dX8_plan_93 : decode cX8_plan 93 = .ok (.invokevirtual 223, 3) := by decide +kernel
theorem dX8_plan_96 : decode cX8_plan 96 = .ok (.istore 5, 2) := by decide +kernel
theorem dX8_plan_98 : decode cX8_plan 98 = .ok (.iload 5, 2) := by decide +kernel
theorem dX8_plan_100 : decode cX8_plan 100 = .ok (.iconst (-1), 1) := by decide +kernel
theorem dX8_plan_101 : decode cX8_plan 101 = .ok (.if_icmp .ne 5, 3) := by decide +kernel
theorem dX8_plan_104 : decode cX8_plan 104 = .ok (.iconst (-1), 1) := by decide +kernel
theorem dX8_plan_105 : decode cX8_plan 105 = .ok (.ireturn, 1) := by decide +kernel
theorem dX8_plan_106 : decode cX8_plan 106 = .ok (.iload_n 2, 1) := by decide +kernel
theorem dX8_plan_107 : decode cX8_plan 107 = .ok (.iconst (-1), 1) := by decide +kernel
theorem dX8_plan_108 : decode cX8_plan 108 = .ok (.if_icmp .ne 8, 3) := by decide +kernel
theorem dX8_plan_111 : decode cX8_plan 111 = .ok (.iload 5, 2) := by decide +kernel
theorem dX8_plan_113 : decode cX8_plan 113 = .ok (.iconst 1, 1) := by decide +kernel
theorem dX8_plan_114 : decode cX8_plan 114 = .ok (.iadd, 1) := by decide +kernel
theorem dX8_plan_115 : decode cX8_plan 115 = .ok (.ireturn, 1) := by decide +kernel
theorem dX8_plan_116 : decode cX8_plan 116 = .ok (.iload_n 2, 1) := by decide +kernel
theorem dX8_plan_117 : decode cX8_plan 117 = .ok (.iload_n 3, 1) := by decide +kernel
theorem dX8_plan_118 : decode cX8_plan 118 = .ok (.if_icmp .ge 16, 3) := by decide +kernel
theorem dX8_plan_121 : decode cX8_plan 121 = .ok (.aload_n 0, 1) := by decide +kernel
theorem dX8_plan_122 : decode cX8_plan 122 = .ok (.getfield 48, 3) := by decide +kernel
theorem dX8_plan_125 : decode cX8_plan 125 = .ok (.iload_n 2, 1) := by decide +kernel
theorem dX8_plan_126 : decode cX8_plan 126 = .ok (.iload 5, 2) := by decide +kernel
theorem dX8_plan_128 : decode cX8_plan 128 = .ok (.invokevirtual 226, 3) := by decide +kernel
theorem dX8_plan_131 : decode cX8_plan 131 = .ok (.goto 5, 3) := by decide +kernel
theorem dX8_plan_134 : decode cX8_plan 134 = .ok (.bipush (-5), 2) := by decide +kernel
theorem dX8_plan_136 : decode cX8_plan 136 = .ok (.ireturn, 1) := by decide +kernel
theorem dX8_guard_0 : decode cX8_guard 0 = .ok (.aload_n 0, 1) := by decide +kernel
theorem dX8_guard_1 : decode cX8_guard 1 = .ok (.getfield 10, 3) := by decide +kernel
theorem dX8_guard_4 : decode cX8_guard 4 = .ok (.getfield 60, 3) := by decide +kernel
theorem dX8_guard_7 : decode cX8_guard 7 = .ok (.iload_n 1, 1) := by decide +kernel
theorem dX8_guard_8 : decode cX8_guard 8 = .ok (.invokevirtual 145, 3) := by decide +kernel
theorem dX8_guard_11 : decode cX8_guard 11 = .ok (.ifCond .eq 12, 3) := by decide +kernel
theorem dX8_guard_14 : decode cX8_guard 14 = .ok (.iload_n 2, 1) := by decide +kernel
theorem dX8_guard_15 : decode cX8_guard 15 = .ok (.iconst 0, 1) := by decide +kernel
theorem dX8_guard_16 : decode cX8_guard 16 = .ok (.iconst 1, 1) := by decide +kernel
theorem dX8_guard_17 : decode cX8_guard 17 = .ok (.invokestatic 104, 3) := by decide +kernel
theorem dX8_guard_20 : decode cX8_guard 20 = .ok (.ifCond .ne 10, 3) := by decide +kernel
theorem dX8_guard_23 : decode cX8_guard 23 = .ok (.aload_n 0, 1) := by decide +kernel
theorem dX8_guard_24 : decode cX8_guard 24 = .ok (.bipush (-2), 2) := by decide +kernel
theorem dX8_guard_26 : decode cX8_guard 26 = .ok (.invokevirtual 80, 3) := by decide +kernel
theorem dX8_guard_29 : decode cX8_guard 29 = .ok (.ireturn, 1) := by decide +kernel
theorem dX8_guard_30 : decode cX8_guard 30 = .ok (.iconst (-1), 1) := by decide +kernel
theorem dX8_guard_31 : decode cX8_guard 31 = .ok (.istore_n 3, 1) := by decide +kernel
theorem dX8_guard_32 : decode cX8_guard 32 = .ok (.iconst (-1), 1) := by decide +kernel
theorem dX8_guard_33 : decode cX8_guard 33 = .ok (.istore 4, 2) := by decide +kernel
theorem dX8_guard_35 : decode cX8_guard 35 = .ok (.iconst 0, 1) := by decide +kernel
theorem dX8_guard_36 : decode cX8_guard 36 = .ok (.istore 5, 2) := by decide +kernel
theorem dX8_guard_38 : decode cX8_guard 38 = .ok (.iload 5, 2) := by decide +kernel
theorem dX8_guard_40 : decode cX8_guard 40 = .ok (.bipush 30, 2) := by decide +kernel
theorem dX8_guard_42 : decode cX8_guard 42 = .ok (.if_icmp .ge 32, 3) := by decide +kernel
theorem dX8_guard_45 : decode cX8_guard 45 = .ok (.aload_n 0, 1) := by decide +kernel
theorem dX8_guard_46 : decode cX8_guard 46 = .ok (.iload_n 1, 1) := by decide +kernel
theorem dX8_guard_47 : decode cX8_guard 47 = .ok (.iload 5, 2) := by decide +kernel
theorem dX8_guard_49 : decode cX8_guard 49 = .ok (.invokevirtual 229, 3) := by decide +kernel
theorem dX8_guard_52 : decode cX8_guard 52 = .ok (.istore 6, 2) := by decide +kernel
theorem dX8_guard_54 : decode cX8_guard 54 = .ok (.iload 6, 2) := by decide +kernel
theorem dX8_guard_56 : decode cX8_guard 56 = .ok (.iload 4, 2) := by decide +kernel
theorem dX8_guard_58 : decode cX8_guard 58 = .ok (.if_icmp .le 10, 3) := by decide +kernel
theorem dX8_guard_61 : decode cX8_guard 61 = .ok (.iload 6, 2) := by decide +kernel
theorem dX8_guard_63 : decode cX8_guard 63 = .ok (.istore 4, 2) := by decide +kernel
theorem dX8_guard_65 : decode cX8_guard 65 = .ok (.iload 5, 2) := by decide +kernel
theorem dX8_guard_67 : decode cX8_guard 67 = .ok (.istore_n 3, 1) := by decide +kernel
theorem dX8_guard_68 : decode cX8_guard 68 = .ok (.iinc 5 1, 3) := by decide +kernel
theorem dX8_guard_71 : decode cX8_guard 71 = .ok (.goto (-33), 3) := by decide +kernel
theorem dX8_guard_74 : decode cX8_guard 74 = .ok (.iload_n 2, 1) := by decide +kernel
theorem dX8_guard_75 : decode cX8_guard 75 = .ok (.ifCond .ne 7, 3) := by decide +kernel
theorem dX8_guard_78 : decode cX8_guard 78 = .ok (.iload_n 3, 1) := by decide +kernel
theorem dX8_guard_79 : decode cX8_guard 79 = .ok (.goto 5, 3) := by decide +kernel
theorem dX8_guard_82 : decode cX8_guard 82 = .ok (.iload 4, 2) := by decide +kernel
theorem dX8_guard_84 : decode cX8_guard 84 = .ok (.ireturn, 1) := by decide +kernel
theorem dX8_saw_0 : decode cX8_saw 0 = .ok (.iload_n 1, 1) := by decide +kernel
theorem dX8_saw_1 : decode cX8_saw 1 = .ok (.invokestatic 188, 3) := by decide +kernel
theorem dX8_saw_4 : decode cX8_saw 4 = .ok (.ifCond .eq 25, 3) := by decide +kernel
theorem dX8_saw_7 : decode cX8_saw 7 = .ok (.iload_n 2, 1) := by decide +kernel
theorem dX8_saw_8 : decode cX8_saw 8 = .ok (.iconst 0, 1) := by decide +kernel
theorem dX8_saw_9 : decode cX8_saw 9 = .ok (.iconst 1, 1) := by decide +kernel
theorem dX8_saw_10 : decode cX8_saw 10 = .ok (.aload_n 0, 1) := by decide +kernel
theorem dX8_saw_11 : decode cX8_saw 11 = .ok (.getfield 10, 3) := by decide +kernel
theorem dX8_saw_14 : decode cX8_saw 14 = .ok (.getfield 60, 3) := by decide +kernel
theorem dX8_saw_17 : decode cX8_saw 17 = .ok (.getfield 63, 3) := by decide +kernel
theorem dX8_saw_20 : decode cX8_saw 20 = .ok (.ishl, 1) := by decide +kernel
theorem dX8_saw_21 : decode cX8_saw 21 = .ok (.iconst 1, 1) := by decide +kernel
theorem dX8_saw_22 : decode cX8_saw 22 = .ok (.isub, 1) := by decide +kernel
theorem dX8_saw_23 : decode cX8_saw 23 = .ok (.invokestatic 104, 3) := by decide +kernel
theorem dX8_saw_26 : decode cX8_saw 26 = .ok (.ifCond .ne 10, 3) := by decide +kernel
theorem dX8_saw_29 : decode cX8_saw 29 = .ok (.aload_n 0, 1) := by decide +kernel
theorem dX8_saw_30 : decode cX8_saw 30 = .ok (.bipush (-2), 2) := by decide +kernel
theorem dX8_saw_32 : decode cX8_saw 32 = .ok (.invokevirtual 80, 3) := by decide +kernel
theorem dX8_saw_35 : decode cX8_saw 35 = .ok (.ireturn, 1) := by decide +kernel
theorem dX8_saw_36 : decode cX8_saw 36 = .ok (.aload_n 0, 1) := by decide +kernel
theorem dX8_saw_37 : decode cX8_saw 37 = .ok (.getfield 10, 3) := by decide +kernel
theorem dX8_saw_40 : decode cX8_saw 40 = .ok (.getfield 232, 3) := by decide +kernel
theorem dX8_saw_43 : decode cX8_saw 43 = .ok (.getfield 236, 3) := by decide +kernel
theorem dX8_saw_46 : decode cX8_saw 46 = .ok (.bipush 6, 2) := by decide +kernel
theorem dX8_saw_48 : decode cX8_saw 48 = .ok (.if_icmp .lt 10, 3) := by decide +kernel
theorem dX8_saw_51 : decode cX8_saw 51 = .ok (.aload_n 0, 1) := by decide +kernel
theorem dX8_saw_52 : decode cX8_saw 52 = .ok (.bipush (-4), 2) := by decide +kernel
theorem dX8_saw_54 : decode cX8_saw 54 = .ok (.invokevirtual 80, 3) := by decide +kernel
theorem dX8_saw_57 : decode cX8_saw 57 = .ok (.ireturn, 1) := by decide +kernel
theorem dX8_saw_58 : decode cX8_saw 58 = .ok (.aload_n 0, 1) := by decide +kernel
theorem dX8_saw_59 : decode cX8_saw 59 = .ok (.getfield 10, 3) := by decide +kernel
theorem dX8_saw_62 : decode cX8_saw 62 = .ok (.getfield 232, 3) := by decide +kernel
theorem dX8_saw_65 : decode cX8_saw 65 = .ok (.iload_n 1, 1) := by decide +kernel
theorem dX8_saw_66 : decode cX8_saw 66 = .ok (.iload_n 2, 1) := by decide +kernel
theorem dX8_saw_67 : decode cX8_saw 67 = .ok (.iconst 0, 1) := by decide +kernel
theorem dX8_saw_68 : decode cX8_saw 68 = .ok (.iconst 0, 1) := by decide +kernel
theorem dX8_saw_69 : decode cX8_saw 69 = .ok (.iconst 0, 1) := by decide +kernel
theorem dX8_saw_70 : decode cX8_saw 70 = .ok (.invokevirtual 239, 3) := by decide +kernel
theorem dX8_saw_73 : decode cX8_saw 73 = .ok (.ireturn, 1) := by decide +kernel
theorem dX8_where_0 : decode cX8_where 0 = .ok (.ldc 243, 2) := by decide +kernel
theorem dX8_where_2 : decode cX8_where 2 = .ok (.istore_n 1, 1) := by decide +kernel
theorem dX8_where_3 : decode cX8_where 3 = .ok (.iconst 0, 1) := by decide +kernel
theorem dX8_where_4 : decode cX8_where 4 = .ok (.istore_n 2, 1) := by decide +kernel
theorem dX8_where_5 : decode cX8_where 5 = .ok (.iload_n 2, 1) := by decide +kernel
theorem dX8_where_6 : decode cX8_where 6 = .ok (.aload_n 0, 1) := by decide +kernel
theorem dX8_where_7 : decode cX8_where 7 = .ok (.getfield 10, 3) := by decide +kernel
theorem dX8_where_10 : decode cX8_where 10 = .ok (.getfield 232, 3) := by decide +kernel
theorem dX8_where_13 : decode cX8_where 13 = .ok (.getfield 236, 3) := by decide +kernel
theorem dX8_where_16 : decode cX8_where 16 = .ok (.if_icmp .ge 97, 3) := by decide +kernel
theorem dX8_where_19 : decode cX8_where 19 = .ok (.aload_n 0, 1) := by decide +kernel
theorem dX8_where_20 : decode cX8_where 20 = .ok (.getfield 34, 3) := by decide +kernel
theorem dX8_where_23 : decode cX8_where 23 = .ok (.aload_n 0, 1) := by decide +kernel
theorem dX8_where_24 : decode cX8_where 24 = .ok (.getfield 10, 3) := by decide +kernel
theorem dX8_where_27 : decode cX8_where 27 = .ok (.getfield 60, 3) := by decide +kernel
theorem dX8_where_30 : decode cX8_where 30 = .ok (.aload_n 0, 1) := by decide +kernel
theorem dX8_where_31 : decode cX8_where 31 = .ok (.getfield 10, 3) := by decide +kernel
theorem dX8_where_34 : decode cX8_where 34 = .ok (.getfield 60, 3) := by decide +kernel
theorem dX8_where_37 : decode cX8_where 37 = .ok (.invokevirtual 166, 3) := by decide +kernel
theorem dX8_where_40 : decode cX8_where 40 = .ok (.aload_n 0, 1) := by decide +kernel
theorem dX8_where_41 : decode cX8_where 41 = .ok (.getfield 10, 3) := by decide +kernel
theorem dX8_where_44 : decode cX8_where 44 = .ok (.getfield 232, 3) := by decide +kernel
theorem dX8_where_47 : decode cX8_where 47 = .ok (.iload_n 2, 1) := by decide +kernel
theorem dX8_where_48 : decode cX8_where 48 = .ok (.iconst 0, 1) := by decide +kernel
theorem dX8_where_49 : decode cX8_where 49 = .ok (.invokevirtual 244, 3) := by decide +kernel
theorem dX8_where_52 : decode cX8_where 52 = .ok (.invokevirtual 191, 3) := by decide +kernel
theorem dX8_where_55 : decode cX8_where 55 = .ok (.iconst 0, 1) := by decide +kernel
theorem dX8_where_56 : decode cX8_where 56 = .ok (.istore_n 3, 1) := by decide +kernel
theorem dX8_where_57 : decode cX8_where 57 = .ok (.iload_n 3, 1) := by decide +kernel
theorem dX8_where_58 : decode cX8_where 58 = .ok (.bipush 30, 2) := by decide +kernel
theorem dX8_where_60 : decode cX8_where 60 = .ok (.if_icmp .ge 47, 3) := by decide +kernel
theorem dX8_where_63 : decode cX8_where 63 = .ok (.aload_n 0, 1) := by decide +kernel
theorem dX8_where_64 : decode cX8_where 64 = .ok (.getfield 34, 3) := by decide +kernel
theorem dX8_where_67 : decode cX8_where 67 = .ok (.aload_n 0, 1) := by decide +kernel
theorem dX8_where_68 : decode cX8_where 68 = .ok (.getfield 10, 3) := by decide +kernel
theorem dX8_where_71 : decode cX8_where 71 = .ok (.getfield 60, 3) := by decide +kernel
theorem dX8_where_74 : decode cX8_where 74 = .ok (.iload_n 3, 1) := by decide +kernel
theorem dX8_where_75 : decode cX8_where 75 = .ok (.invokevirtual 195, 3) := by decide +kernel
theorem dX8_where_78 : decode cX8_where 78 = .ok (.aload_n 0, 1) := by decide +kernel
theorem dX8_where_79 : decode cX8_where 79 = .ok (.getfield 10, 3) := by decide +kernel
theorem dX8_where_82 : decode cX8_where 82 = .ok (.getfield 232, 3) := by decide +kernel
theorem dX8_where_85 : decode cX8_where 85 = .ok (.iload_n 2, 1) := by decide +kernel
theorem dX8_where_86 : decode cX8_where 86 = .ok (.iconst 1, 1) := by decide +kernel
theorem dX8_where_87 : decode cX8_where 87 = .ok (.invokevirtual 244, 3) := by decide +kernel
theorem dX8_where_90 : decode cX8_where 90 = .ok (.if_icmp .eq 11, 3) := by decide +kernel
theorem dX8_where_93 : decode cX8_where 93 = .ok (.iload_n 1, 1) := by decide +kernel
theorem dX8_where_94 : decode cX8_where 94 = .ok (.iconst 1, 1) := by decide +kernel
theorem dX8_where_95 : decode cX8_where 95 = .ok (.iload_n 3, 1) := by decide +kernel
theorem dX8_where_96 : decode cX8_where 96 = .ok (.ishl, 1) := by decide +kernel
theorem dX8_where_97 : decode cX8_where 97 = .ok (.iconst (-1), 1) := by decide +kernel
theorem dX8_where_98 : decode cX8_where 98 = .ok (.ixor, 1) := by decide +kernel
theorem dX8_where_99 : decode cX8_where 99 = .ok (.iand, 1) := by decide +kernel
theorem dX8_where_100 : decode cX8_where 100 = .ok (.istore_n 1, 1) := by decide +kernel
theorem dX8_where_101 : decode cX8_where 101 = .ok (.iinc 3 1, 3) := by decide +kernel
theorem dX8_where_104 : decode cX8_where 104 = .ok (.goto (-47), 3) := by decide +kernel
theorem dX8_where_107 : decode cX8_where 107 = .ok (.iinc 2 1, 3) := by decide +kernel
theorem dX8_where_110 : decode cX8_where 110 = .ok (.goto (-105), 3) := by decide +kernel
theorem dX8_where_113 : decode cX8_where 113 = .ok (.iload_n 1, 1) := by decide +kernel
theorem dX8_where_114 : decode cX8_where 114 = .ok (.ireturn, 1) := by decide +kernel
theorem dX8_note_0 : decode cX8_note 0 = .ok (.aload_n 0, 1) := by decide +kernel
theorem dX8_note_1 : decode cX8_note 1 = .ok (.getfield 10, 3) := by decide +kernel
theorem dX8_note_4 : decode cX8_note 4 = .ok (.getfield 60, 3) := by decide +kernel
theorem dX8_note_7 : decode cX8_note 7 = .ok (.iload_n 1, 1) := by decide +kernel
theorem dX8_note_8 : decode cX8_note 8 = .ok (.invokevirtual 136, 3) := by decide +kernel
theorem dX8_note_11 : decode cX8_note 11 = .ok (.ifCond .eq 33, 3) := by decide +kernel
theorem dX8_note_14 : decode cX8_note 14 = .ok (.iload_n 2, 1) := by decide +kernel
theorem dX8_note_15 : decode cX8_note 15 = .ok (.invokestatic 77, 3) := by decide +kernel
theorem dX8_note_18 : decode cX8_note 18 = .ok (.ifCond .eq 26, 3) := by decide +kernel
theorem dX8_note_21 : decode cX8_note 21 = .ok (.iload_n 3, 1) := by decide +kernel
theorem dX8_note_22 : decode cX8_note 22 = .ok (.invokestatic 247, 3) := by decide +kernel
theorem dX8_note_25 : decode cX8_note 25 = .ok (.ifCond .eq 19, 3) := by decide +kernel
theorem dX8_note_28 : decode cX8_note 28 = .ok (.iload 4, 2) := by decide +kernel
theorem dX8_note_30 : decode cX8_note 30 = .ok (.invokestatic 188, 3) := by decide +kernel
theorem dX8_note_33 : decode cX8_note 33 = .ok (.ifCond .eq 11, 3) := by decide +kernel
theorem dX8_note_36 : decode cX8_note 36 = .ok (.iload 5, 2) := by decide +kernel
theorem dX8_note_38 : decode cX8_note 38 = .ok (.invokestatic 250, 3) := by decide +kernel
theorem dX8_note_41 : decode cX8_note 41 = .ok (.ifCond .ne 10, 3) := by decide +kernel
theorem dX8_note_44 : decode cX8_note 44 = .ok (.aload_n 0, 1) := by decide +kernel
theorem dX8_note_45 : decode cX8_note 45 = .ok (.bipush (-2), 2) := by decide +kernel
theorem dX8_note_47 : decode cX8_note 47 = .ok (.invokevirtual 80, 3) := by decide +kernel
theorem dX8_note_50 : decode cX8_note 50 = .ok (.ireturn, 1) := by decide +kernel
theorem dX8_note_51 : decode cX8_note 51 = .ok (.aload_n 0, 1) := by decide +kernel
theorem dX8_note_52 : decode cX8_note 52 = .ok (.getfield 10, 3) := by decide +kernel
theorem dX8_note_55 : decode cX8_note 55 = .ok (.getfield 253, 3) := by decide +kernel
theorem dX8_note_58 : decode cX8_note 58 = .ok (.getfield 236, 3) := by decide +kernel
theorem dX8_note_61 : decode cX8_note 61 = .ok (.bipush 6, 2) := by decide +kernel
theorem dX8_note_63 : decode cX8_note 63 = .ok (.if_icmp .lt 10, 3) := by decide +kernel
theorem dX8_note_66 : decode cX8_note 66 = .ok (.aload_n 0, 1) := by decide +kernel
theorem dX8_note_67 : decode cX8_note 67 = .ok (.bipush (-4), 2) := by decide +kernel
theorem dX8_note_69 : decode cX8_note 69 = .ok (.invokevirtual 80, 3) := by decide +kernel
theorem dX8_note_72 : decode cX8_note 72 = .ok (.ireturn, 1) := by decide +kernel
theorem dX8_note_73 : decode cX8_note 73 = .ok (.aload_n 0, 1) := by decide +kernel
theorem dX8_note_74 : decode cX8_note 74 = .ok (.getfield 10, 3) := by decide +kernel
theorem dX8_note_77 : decode cX8_note 77 = .ok (.getfield 253, 3) := by decide +kernel
theorem dX8_note_80 : decode cX8_note 80 = .ok (.iload_n 1, 1) := by decide +kernel
theorem dX8_note_81 : decode cX8_note 81 = .ok (.iload_n 2, 1) := by decide +kernel
theorem dX8_note_82 : decode cX8_note 82 = .ok (.iload_n 3, 1) := by decide +kernel
theorem dX8_note_83 : decode cX8_note 83 = .ok (.iload 4, 2) := by decide +kernel
theorem dX8_note_85 : decode cX8_note 85 = .ok (.iload 5, 2) := by decide +kernel
theorem dX8_note_87 : decode cX8_note 87 = .ok (.invokevirtual 239, 3) := by decide +kernel
theorem dX8_note_90 : decode cX8_note 90 = .ok (.ireturn, 1) := by decide +kernel
theorem dX8_mark_0 : decode cX8_mark 0 = .ok (.aload_n 0, 1) := by decide +kernel
theorem dX8_mark_1 : decode cX8_mark 1 = .ok (.getfield 10, 3) := by decide +kernel
theorem dX8_mark_4 : decode cX8_mark 4 = .ok (.getfield 60, 3) := by decide +kernel
theorem dX8_mark_7 : decode cX8_mark 7 = .ok (.iload_n 1, 1) := by decide +kernel
theorem dX8_mark_8 : decode cX8_mark 8 = .ok (.invokevirtual 145, 3) := by decide +kernel
theorem dX8_mark_11 : decode cX8_mark 11 = .ok (.ifCond .eq 27, 3) := by decide +kernel
theorem dX8_mark_14 : decode cX8_mark 14 = .ok (.iload_n 2, 1) := by decide +kernel
theorem dX8_mark_15 : decode cX8_mark 15 = .ok (.invokestatic 247, 3) := by decide +kernel
theorem dX8_mark_18 : decode cX8_mark 18 = .ok (.ifCond .eq 20, 3) := by decide +kernel
theorem dX8_mark_21 : decode cX8_mark 21 = .ok (.iload_n 3, 1) := by decide +kernel
theorem dX8_mark_22 : decode cX8_mark 22 = .ok (.invokestatic 250, 3) := by decide +kernel
theorem dX8_mark_25 : decode cX8_mark 25 = .ok (.ifCond .eq 13, 3) := by decide +kernel
theorem dX8_mark_28 : decode cX8_mark 28 = .ok (.iload 4, 2) := by decide +kernel
theorem dX8_mark_30 : decode cX8_mark 30 = .ok (.iconst 0, 1) := by decide +kernel
theorem dX8_mark_31 : decode cX8_mark 31 = .ok (.iconst 1, 1) := by decide +kernel
theorem dX8_mark_32 : decode cX8_mark 32 = .ok (.invokestatic 104, 3) := by decide +kernel
theorem dX8_mark_35 : decode cX8_mark 35 = .ok (.ifCond .ne 10, 3) := by decide +kernel
theorem dX8_mark_38 : decode cX8_mark 38 = .ok (.aload_n 0, 1) := by decide +kernel
theorem dX8_mark_39 : decode cX8_mark 39 = .ok (.bipush (-2), 2) := by decide +kernel
theorem dX8_mark_41 : decode cX8_mark 41 = .ok (.invokevirtual 80, 3) := by decide +kernel
theorem dX8_mark_44 : decode cX8_mark 44 = .ok (.ireturn, 1) := by decide +kernel
theorem dX8_mark_45 : decode cX8_mark 45 = .ok (.aload_n 0, 1) := by decide +kernel
theorem dX8_mark_46 : decode cX8_mark 46 = .ok (.getfield 10, 3) := by decide +kernel
theorem dX8_mark_49 : decode cX8_mark 49 = .ok (.getfield 256, 3) := by decide +kernel
theorem dX8_mark_52 : decode cX8_mark 52 = .ok (.getfield 236, 3) := by decide +kernel
theorem dX8_mark_55 : decode cX8_mark 55 = .ok (.bipush 6, 2) := by decide +kernel
theorem dX8_mark_57 : decode cX8_mark 57 = .ok (.if_icmp .lt 10, 3) := by decide +kernel
theorem dX8_mark_60 : decode cX8_mark 60 = .ok (.aload_n 0, 1) := by decide +kernel
theorem dX8_mark_61 : decode cX8_mark 61 = .ok (.bipush (-4), 2) := by decide +kernel
theorem dX8_mark_63 : decode cX8_mark 63 = .ok (.invokevirtual 80, 3) := by decide +kernel
theorem dX8_mark_66 : decode cX8_mark 66 = .ok (.ireturn, 1) := by decide +kernel
theorem dX8_mark_67 : decode cX8_mark 67 = .ok (.aload_n 0, 1) := by decide +kernel
theorem dX8_mark_68 : decode cX8_mark 68 = .ok (.getfield 10, 3) := by decide +kernel
theorem dX8_mark_71 : decode cX8_mark 71 = .ok (.getfield 256, 3) := by decide +kernel
theorem dX8_mark_74 : decode cX8_mark 74 = .ok (.iload_n 1, 1) := by decide +kernel
theorem dX8_mark_75 : decode cX8_mark 75 = .ok (.iload_n 2, 1) := by decide +kernel
theorem dX8_mark_76 : decode cX8_mark 76 = .ok (.iload_n 3, 1) := by decide +kernel
theorem dX8_mark_77 : decode cX8_mark 77 = .ok (.iload 4, 2) := by decide +kernel
theorem dX8_mark_79 : decode cX8_mark 79 = .ok (.iconst 0, 1) := by decide +kernel
theorem dX8_mark_80 : decode cX8_mark 80 = .ok (.invokevirtual 239, 3) := by decide +kernel
theorem dX8_mark_83 : decode cX8_mark 83 = .ok (.ireturn, 1) := by decide +kernel
theorem dX8_forget_0 : decode cX8_forget 0 = .ok (.iload_n 1, 1) := by decide +kernel
theorem dX8_forget_1 : decode cX8_forget 1 = .ok (.iconst 0, 1) := by decide +kernel
theorem dX8_forget_2 : decode cX8_forget 2 = .ok (.iconst 2, 1) := by decide +kernel
theorem dX8_forget_3 : decode cX8_forget 3 = .ok (.invokestatic 104, 3) := by decide +kernel
theorem dX8_forget_6 : decode cX8_forget 6 = .ok (.ifCond .ne 10, 3) := by decide +kernel
theorem dX8_forget_9 : decode cX8_forget 9 = .ok (.aload_n 0, 1) := by decide +kernel
theorem dX8_forget_10 : decode cX8_forget 10 = .ok (.bipush (-2), 2) := by decide +kernel
theorem dX8_forget_12 : decode cX8_forget 12 = .ok (.invokevirtual 80, 3) := by decide +kernel
theorem dX8_forget_15 : decode cX8_forget 15 = .ok (.ireturn, 1) := by decide +kernel
theorem dX8_forget_16 : decode cX8_forget 16 = .ok (.iload_n 1, 1) := by decide +kernel
theorem dX8_forget_17 : decode cX8_forget 17 = .ok (.ifCond .ne 13, 3) := by decide +kernel
theorem dX8_forget_20 : decode cX8_forget 20 = .ok (.aload_n 0, 1) := by decide +kernel
theorem dX8_forget_21 : decode cX8_forget 21 = .ok (.getfield 10, 3) := by decide +kernel
theorem dX8_forget_24 : decode cX8_forget 24 = .ok (.getfield 232, 3) := by decide +kernel
theorem dX8_forget_27 : decode cX8_forget 27 = .ok (.goto 25, 3) := by decide +kernel
theorem dX8_forget_30 : decode cX8_forget 30 = .ok (.iload_n 1, 1) := by decide +kernel
theorem dX8_forget_31 : decode cX8_forget 31 = .ok (.iconst 1, 1) := by decide +kernel
theorem dX8_forget_32 : decode cX8_forget 32 = .ok (.if_icmp .ne 13, 3) := by decide +kernel
theorem dX8_forget_35 : decode cX8_forget 35 = .ok (.aload_n 0, 1) := by decide +kernel
theorem dX8_forget_36 : decode cX8_forget 36 = .ok (.getfield 10, 3) := by decide +kernel
theorem dX8_forget_39 : decode cX8_forget 39 = .ok (.getfield 253, 3) := by decide +kernel
theorem dX8_forget_42 : decode cX8_forget 42 = .ok (.goto 10, 3) := by decide +kernel
theorem dX8_forget_45 : decode cX8_forget 45 = .ok (.aload_n 0, 1) := by decide +kernel
theorem dX8_forget_46 : decode cX8_forget 46 = .ok (.getfield 10, 3) := by decide +kernel
theorem dX8_forget_49 : decode cX8_forget 49 = .ok (.getfield 256, 3) := by decide +kernel
theorem dX8_forget_52 : decode cX8_forget 52 = .ok (.astore_n 2, 1) := by decide +kernel
theorem dX8_forget_53 : decode cX8_forget 53 = .ok (.aload_n 2, 1) := by decide +kernel
theorem dX8_forget_54 : decode cX8_forget 54 = .ok (.getfield 236, 3) := by decide +kernel
theorem dX8_forget_57 : decode cX8_forget 57 = .ok (.istore_n 3, 1) := by decide +kernel
theorem dX8_forget_58 : decode cX8_forget 58 = .ok (.aload_n 2, 1) := by decide +kernel
theorem dX8_forget_59 : decode cX8_forget 59 = .ok (.iconst 0, 1) := by decide +kernel
theorem dX8_forget_60 : decode cX8_forget 60 = .ok (.putfield 236, 3) := by decide +kernel
theorem dX8_forget_63 : decode cX8_forget 63 = .ok (.iload_n 3, 1) := by decide +kernel
theorem dX8_forget_64 : decode cX8_forget 64 = .ok (.ireturn, 1) := by decide +kernel
theorem dX8_is_0 : decode cX8_is 0 = .ok (.aload_n 0, 1) := by decide +kernel
theorem dX8_is_1 : decode cX8_is 1 = .ok (.getfield 10, 3) := by decide +kernel
theorem dX8_is_4 : decode cX8_is 4 = .ok (.getfield 60, 3) := by decide +kernel
theorem dX8_is_7 : decode cX8_is 7 = .ok (.iload_n 1, 1) := by decide +kernel
theorem dX8_is_8 : decode cX8_is 8 = .ok (.invokevirtual 136, 3) := by decide +kernel
theorem dX8_is_11 : decode cX8_is 11 = .ok (.ifCond .eq 11, 3) := by decide +kernel
theorem dX8_is_14 : decode cX8_is 14 = .ok (.aload_n 0, 1) := by decide +kernel
theorem dX8_is_15 : decode cX8_is 15 = .ok (.iload_n 1, 1) := by decide +kernel
theorem dX8_is_16 : decode cX8_is 16 = .ok (.invokevirtual 259, 3) := by decide +kernel
theorem dX8_is_19 : decode cX8_is 19 = .ok (.goto 9, 3) := by decide +kernel
theorem dX8_is_22 : decode cX8_is 22 = .ok (.aload_n 0, 1) := by decide +kernel
theorem dX8_is_23 : decode cX8_is 23 = .ok (.bipush (-2), 2) := by decide +kernel
theorem dX8_is_25 : decode cX8_is 25 = .ok (.invokevirtual 80, 3) := by decide +kernel
theorem dX8_is_28 : decode cX8_is 28 = .ok (.ireturn, 1) := by decide +kernel
theorem dX8_look_0 : decode cX8_look 0 = .ok (.aload_n 0, 1) := by decide +kernel
theorem dX8_look_1 : decode cX8_look 1 = .ok (.getfield 10, 3) := by decide +kernel
theorem dX8_look_4 : decode cX8_look 4 = .ok (.getfield 60, 3) := by decide +kernel
theorem dX8_look_7 : decode cX8_look 7 = .ok (.iload_n 1, 1) := by decide +kernel
theorem dX8_look_8 : decode cX8_look 8 = .ok (.invokevirtual 136, 3) := by decide +kernel
theorem dX8_look_11 : decode cX8_look 11 = .ok (.ifCond .ne 10, 3) := by decide +kernel
theorem dX8_look_14 : decode cX8_look 14 = .ok (.aload_n 0, 1) := by decide +kernel
theorem dX8_look_15 : decode cX8_look 15 = .ok (.bipush (-2), 2) := by decide +kernel
theorem dX8_look_17 : decode cX8_look 17 = .ok (.invokevirtual 80, 3) := by decide +kernel
theorem dX8_look_20 : decode cX8_look 20 = .ok (.ireturn, 1) := by decide +kernel
theorem dX8_look_21 : decode cX8_look 21 = .ok (.aload_n 0, 1) := by decide +kernel
theorem dX8_look_22 : decode cX8_look 22 = .ok (.iload_n 1, 1) := by decide +kernel
theorem dX8_look_23 : decode cX8_look 23 = .ok (.invokevirtual 259, 3) := by decide +kernel
theorem dX8_look_26 : decode cX8_look 26 = .ok (.istore_n 2, 1) := by decide +kernel
theorem dX8_look_27 : decode cX8_look 27 = .ok (.iconst (-1), 1) := by decide +kernel
theorem dX8_look_28 : decode cX8_look 28 = .ok (.istore_n 3, 1) := by decide +kernel
theorem dX8_look_29 : decode cX8_look 29 = .ok (.bipush 7, 2) := by decide +kernel
theorem dX8_look_31 : decode cX8_look 31 = .ok (.istore 4, 2) := by decide +kernel
theorem dX8_look_33 : decode cX8_look 33 = .ok (.iconst 0, 1) := by decide +kernel
theorem dX8_look_34 : decode cX8_look 34 = .ok (.istore 5, 2) := by decide +kernel
theorem dX8_look_36 : decode cX8_look 36 = .ok (.iload_n 2, 1) := by decide +kernel
theorem dX8_look_37 : decode cX8_look 37 = .ok (.ifCond .eq 75, 3) := by decide +kernel
theorem dX8_look_40 : decode cX8_look 40 = .ok (.iload 5, 2) := by decide +kernel
theorem dX8_look_42 : decode cX8_look 42 = .ok (.bipush 12, 2) := by decide +kernel
theorem dX8_look_44 : decode cX8_look 44 = .ok (.if_icmp .ge 68, 3) := by decide +kernel
theorem dX8_look_47 : decode cX8_look 47 = .ok (.iconst 0, 1) := by decide +kernel
theorem dX8_look_48 : decode cX8_look 48 = .ok (.istore 6, 2) := by decide +kernel
theorem dX8_look_50 : decode cX8_look 50 = .ok (.iload 6, 2) := by decide +kernel
theorem dX8_look_52 : decode cX8_look 52 = .ok (.bipush 9, 2) := by decide +kernel
theorem dX8_look_54 : decode cX8_look 54 = .ok (.if_icmp .gt 52, 3) := by decide +kernel
theorem dX8_look_57 : decode cX8_look 57 = .ok (.aload_n 0, 1) := by decide +kernel
theorem dX8_look_58 : decode cX8_look 58 = .ok (.iload_n 2, 1) := by decide +kernel
theorem dX8_look_59 : decode cX8_look 59 = .ok (.aload_n 0, 1) := by decide +kernel
theorem dX8_look_60 : decode cX8_look 60 = .ok (.getfield 10, 3) := by decide +kernel
theorem dX8_look_63 : decode cX8_look 63 = .ok (.getfield 60, 3) := by decide +kernel
theorem dX8_look_66 : decode cX8_look 66 = .ok (.getfield 262, 3) := by decide +kernel
theorem dX8_look_69 : decode cX8_look 69 = .ok (.iload_n 1, 1) := by decide +kernel
theorem dX8_look_70 : decode cX8_look 70 = .ok (.iaload, 1) := by decide +kernel
theorem dX8_look_71 : decode cX8_look 71 = .ok (.iload 6, 2) := by decide +kernel
theorem dX8_look_73 : decode cX8_look 73 = .ok (.iload 5, 2) := by decide +kernel
theorem dX8_look_75 : decode cX8_look 75 = .ok (.invokevirtual 265, 3) := by decide +kernel
theorem dX8_look_78 : decode cX8_look 78 = .ok (.istore 7, 2) := by decide +kernel
theorem dX8_look_80 : decode cX8_look 80 = .ok (.iload 7, 2) := by decide +kernel
theorem dX8_look_82 : decode cX8_look 82 = .ok (.iload 4, 2) := by decide +kernel
theorem dX8_look_84 : decode cX8_look 84 = .ok (.if_icmp .ge 16, 3) := by decide +kernel
theorem dX8_look_87 : decode cX8_look 87 = .ok (.iload 7, 2) := by decide +kernel
theorem dX8_look_89 : decode cX8_look 89 = .ok (.istore 4, 2) := by decide +kernel
theorem dX8_look_91 : decode cX8_look 91 = .ok (.bipush 100, 2) := by decide +kernel
theorem dX8_look_93 : decode cX8_look 93 = .ok (.iload 5, 2) := by decide +kernel
theorem dX8_look_95 : decode cX8_look 95 = .ok (.imul, 1) := by decide +kernel
theorem dX8_look_96 : decode cX8_look 96 = .ok (.iload 6, 2) := by decide +kernel
theorem dX8_look_98 : decode cX8_look 98 = .ok (.iadd, 1) := by decide +kernel
theorem dX8_look_99 : decode cX8_look 99 = .ok (.istore_n 3, 1) := by decide +kernel
theorem dX8_look_100 : decode cX8_look 100 = .ok (.iinc 6 1, 3) := by decide +kernel
theorem dX8_look_103 : decode cX8_look 103 = .ok (.goto (-53), 3) := by decide +kernel
theorem dX8_look_106 : decode cX8_look 106 = .ok (.iinc 5 1, 3) := by decide +kernel
theorem dX8_look_109 : decode cX8_look 109 = .ok (.goto (-73), 3) := by decide +kernel
theorem dX8_look_112 : decode cX8_look 112 = .ok (.iload_n 3, 1) := by decide +kernel
theorem dX8_look_113 : decode cX8_look 113 = .ok (.ireturn, 1) := by decide +kernel
theorem dX8_what_0 : decode cX8_what 0 = .ok (.aload_n 0, 1) := by decide +kernel
theorem dX8_what_1 : decode cX8_what 1 = .ok (.getfield 10, 3) := by decide +kernel
theorem dX8_what_4 : decode cX8_what 4 = .ok (.getfield 60, 3) := by decide +kernel
theorem dX8_what_7 : decode cX8_what 7 = .ok (.iload_n 1, 1) := by decide +kernel
theorem dX8_what_8 : decode cX8_what 8 = .ok (.invokevirtual 145, 3) := by decide +kernel
theorem dX8_what_11 : decode cX8_what 11 = .ok (.ifCond .eq 11, 3) := by decide +kernel
theorem dX8_what_14 : decode cX8_what 14 = .ok (.aload_n 0, 1) := by decide +kernel
theorem dX8_what_15 : decode cX8_what 15 = .ok (.iload_n 1, 1) := by decide +kernel
theorem dX8_what_16 : decode cX8_what 16 = .ok (.invokevirtual 269, 3) := by decide +kernel
theorem dX8_what_19 : decode cX8_what 19 = .ok (.goto 9, 3) := by decide +kernel
theorem dX8_what_22 : decode cX8_what 22 = .ok (.aload_n 0, 1) := by decide +kernel
theorem dX8_what_23 : decode cX8_what 23 = .ok (.bipush (-2), 2) := by decide +kernel
theorem dX8_what_25 : decode cX8_what 25 = .ok (.invokevirtual 80, 3) := by decide +kernel
theorem dX8_what_28 : decode cX8_what 28 = .ok (.ireturn, 1) := by decide +kernel
theorem dX8_tries_0 : decode cX8_tries 0 = .ok (.aload_n 0, 1) := by decide +kernel
theorem dX8_tries_1 : decode cX8_tries 1 = .ok (.getfield 10, 3) := by decide +kernel
theorem dX8_tries_4 : decode cX8_tries 4 = .ok (.getfield 60, 3) := by decide +kernel
theorem dX8_tries_7 : decode cX8_tries 7 = .ok (.iload_n 1, 1) := by decide +kernel
theorem dX8_tries_8 : decode cX8_tries 8 = .ok (.invokevirtual 145, 3) := by decide +kernel
theorem dX8_tries_11 : decode cX8_tries 11 = .ok (.ifCond .ne 10, 3) := by decide +kernel
theorem dX8_tries_14 : decode cX8_tries 14 = .ok (.aload_n 0, 1) := by decide +kernel
theorem dX8_tries_15 : decode cX8_tries 15 = .ok (.bipush (-2), 2) := by decide +kernel
theorem dX8_tries_17 : decode cX8_tries 17 = .ok (.invokevirtual 80, 3) := by decide +kernel
theorem dX8_tries_20 : decode cX8_tries 20 = .ok (.ireturn, 1) := by decide +kernel
theorem dX8_tries_21 : decode cX8_tries 21 = .ok (.aload_n 0, 1) := by decide +kernel
theorem dX8_tries_22 : decode cX8_tries 22 = .ok (.iload_n 1, 1) := by decide +kernel
theorem dX8_tries_23 : decode cX8_tries 23 = .ok (.invokevirtual 269, 3) := by decide +kernel
theorem dX8_tries_26 : decode cX8_tries 26 = .ok (.istore_n 2, 1) := by decide +kernel
theorem dX8_tries_27 : decode cX8_tries 27 = .ok (.iconst (-1), 1) := by decide +kernel
theorem dX8_tries_28 : decode cX8_tries 28 = .ok (.istore_n 3, 1) := by decide +kernel
theorem dX8_tries_29 : decode cX8_tries 29 = .ok (.bipush 7, 2) := by decide +kernel
theorem dX8_tries_31 : decode cX8_tries 31 = .ok (.istore 4, 2) := by decide +kernel
theorem dX8_tries_33 : decode cX8_tries 33 = .ok (.iconst 0, 1) := by decide +kernel
theorem dX8_tries_34 : decode cX8_tries 34 = .ok (.istore 5, 2) := by decide +kernel
theorem dX8_tries_36 : decode cX8_tries 36 = .ok (.iload_n 2, 1) := by decide +kernel
theorem dX8_tries_37 : decode cX8_tries 37 = .ok (.ifCond .eq 62, 3) := by decide +kernel
theorem dX8_tries_40 : decode cX8_tries 40 = .ok (.iload 5, 2) := by decide +kernel
theorem dX8_tries_42 : decode cX8_tries 42 = .ok (.bipush 9, 2) := by decide +kernel
theorem dX8_tries_44 : decode cX8_tries 44 = .ok (.if_icmp .gt 55, 3) := by decide +kernel
theorem dX8_tries_47 : decode cX8_tries 47 = .ok (.iconst 0, 1) := by decide +kernel
theorem dX8_tries_48 : decode cX8_tries 48 = .ok (.istore 6, 2) := by decide +kernel
theorem dX8_tries_50 : decode cX8_tries 50 = .ok (.iload 6, 2) := by decide +kernel
theorem dX8_tries_52 : decode cX8_tries 52 = .ok (.bipush 40, 2) := by decide +kernel
theorem dX8_tries_54 : decode cX8_tries 54 = .ok (.if_icmp .gt 39, 3) := by decide +kernel
theorem dX8_tries_57 : decode cX8_tries 57 = .ok (.iload_n 2, 1) := by decide +kernel
theorem dX8_tries_58 : decode cX8_tries 58 = .ok (.iload 5, 2) := by decide +kernel
theorem dX8_tries_60 : decode cX8_tries 60 = .ok (.iload 6, 2) := by decide +kernel
theorem dX8_tries_62 : decode cX8_tries 62 = .ok (.invokestatic 272, 3) := by decide +kernel
theorem dX8_tries_65 : decode cX8_tries 65 = .ok (.istore 7, 2) := by decide +kernel
theorem dX8_tries_67 : decode cX8_tries 67 = .ok (.iload 7, 2) := by decide +kernel
theorem dX8_tries_69 : decode cX8_tries 69 = .ok (.iload 4, 2) := by decide +kernel
theorem dX8_tries_71 : decode cX8_tries 71 = .ok (.if_icmp .ge 16, 3) := by decide +kernel
theorem dX8_tries_74 : decode cX8_tries 74 = .ok (.iload 7, 2) := by decide +kernel
theorem dX8_tries_76 : decode cX8_tries 76 = .ok (.istore 4, 2) := by decide +kernel
theorem dX8_tries_78 : decode cX8_tries 78 = .ok (.bipush 100, 2) := by decide +kernel
theorem dX8_tries_80 : decode cX8_tries 80 = .ok (.iload 5, 2) := by decide +kernel
theorem dX8_tries_82 : decode cX8_tries 82 = .ok (.imul, 1) := by decide +kernel
theorem dX8_tries_83 : decode cX8_tries 83 = .ok (.iload 6, 2) := by decide +kernel
theorem dX8_tries_85 : decode cX8_tries 85 = .ok (.iadd, 1) := by decide +kernel
theorem dX8_tries_86 : decode cX8_tries 86 = .ok (.istore_n 3, 1) := by decide +kernel
theorem dX8_tries_87 : decode cX8_tries 87 = .ok (.iinc 6 1, 3) := by decide +kernel
theorem dX8_tries_90 : decode cX8_tries 90 = .ok (.goto (-40), 3) := by decide +kernel
theorem dX8_tries_93 : decode cX8_tries 93 = .ok (.iinc 5 1, 3) := by decide +kernel
theorem dX8_tries_96 : decode cX8_tries 96 = .ok (.goto (-60), 3) := by decide +kernel
theorem dX8_tries_99 : decode cX8_tries 99 = .ok (.iload_n 3, 1) := by decide +kernel
theorem dX8_tries_100 : decode cX8_tries 100 = .ok (.ireturn, 1) := by decide +kernel
theorem dX8_game_0 : decode cX8_game 0 = .ok (.aload_n 0, 1) := by decide +kernel
theorem dX8_game_1 : decode cX8_game 1 = .ok (.getfield 10, 3) := by decide +kernel
theorem dX8_game_4 : decode cX8_game 4 = .ok (.getfield 60, 3) := by decide +kernel
theorem dX8_game_7 : decode cX8_game 7 = .ok (.iload_n 1, 1) := by decide +kernel
theorem dX8_game_8 : decode cX8_game 8 = .ok (.invokevirtual 145, 3) := by decide +kernel
theorem dX8_game_11 : decode cX8_game 11 = .ok (.ifCond .eq 22, 3) := by decide +kernel
theorem dX8_game_14 : decode cX8_game 14 = .ok (.iload_n 2, 1) := by decide +kernel
theorem dX8_game_15 : decode cX8_game 15 = .ok (.invokestatic 74, 3) := by decide +kernel
theorem dX8_game_18 : decode cX8_game 18 = .ok (.ifCond .eq 15, 3) := by decide +kernel
theorem dX8_game_21 : decode cX8_game 21 = .ok (.iload_n 3, 1) := by decide +kernel
theorem dX8_game_22 : decode cX8_game 22 = .ok (.invokestatic 74, 3) := by decide +kernel
theorem dX8_game_25 : decode cX8_game 25 = .ok (.ifCond .eq 8, 3) := by decide +kernel
theorem dX8_game_28 : decode cX8_game 28 = .ok (.iload_n 2, 1) := by decide +kernel
theorem dX8_game_29 : decode cX8_game 29 = .ok (.iload_n 3, 1) := by decide +kernel
theorem dX8_game_30 : decode cX8_game 30 = .ok (.if_icmp .ne 10, 3) := by decide +kernel
theorem dX8_game_33 : decode cX8_game 33 = .ok (.aload_n 0, 1) := by decide +kernel
theorem dX8_game_34 : decode cX8_game 34 = .ok (.bipush (-2), 2) := by decide +kernel
theorem dX8_game_36 : decode cX8_game 36 = .ok (.invokevirtual 80, 3) := by decide +kernel
theorem dX8_game_39 : decode cX8_game 39 = .ok (.ireturn, 1) := by decide +kernel
theorem dX8_game_40 : decode cX8_game 40 = .ok (.iconst 0, 1) := by decide +kernel
theorem dX8_game_41 : decode cX8_game 41 = .ok (.istore 4, 2) := by decide +kernel
theorem dX8_game_43 : decode cX8_game 43 = .ok (.iconst 0, 1) := by decide +kernel
theorem dX8_game_44 : decode cX8_game 44 = .ok (.istore 5, 2) := by decide +kernel
theorem dX8_game_46 : decode cX8_game 46 = .ok (.iload 5, 2) := by decide +kernel
theorem dX8_game_48 : decode cX8_game 48 = .ok (.iconst 4, 1) := by decide +kernel
theorem dX8_game_49 : decode cX8_game 49 = .ok (.if_icmp .ge 131, 3) := by decide +kernel
theorem dX8_game_52 : decode cX8_game 52 = .ok (.iload 5, 2) := by decide +kernel
theorem dX8_game_54 : decode cX8_game 54 = .ok (.iconst 1, 1) := by decide +kernel
theorem dX8_game_55 : decode cX8_game 55 = .ok (.iand, 1) := by decide +kernel
theorem dX8_game_56 : decode cX8_game 56 = .ok (.ifCond .ne 7, 3) := by decide +kernel
theorem dX8_game_59 : decode cX8_game 59 = .ok (.iload_n 2, 1) := by decide +kernel
theorem dX8_game_60 : decode cX8_game 60 = .ok (.goto 4, 3) := by decide +kernel
theorem dX8_game_63 : decode cX8_game 63 = .ok (.iload_n 3, 1) := by decide +kernel
theorem dX8_game_64 : decode cX8_game 64 = .ok (.istore 6, 2) := by decide +kernel
theorem dX8_game_66 : decode cX8_game 66 = .ok (.iload 5, 2) := by decide +kernel
theorem dX8_game_68 : decode cX8_game 68 = .ok (.iconst 2, 1) := by decide +kernel
theorem dX8_game_69 : decode cX8_game 69 = .ok (.iand, 1) := by decide +kernel
theorem dX8_game_70 : decode cX8_game 70 = .ok (.ifCond .ne 7, 3) := by decide +kernel
theorem dX8_game_73 : decode cX8_game 73 = .ok (.iload_n 2, 1) := by decide +kernel
theorem dX8_game_74 : decode cX8_game 74 = .ok (.goto 4, 3) := by decide +kernel
theorem dX8_game_77 : decode cX8_game 77 = .ok (.iload_n 3, 1) := by decide +kernel
theorem dX8_game_78 : decode cX8_game 78 = .ok (.istore 7, 2) := by decide +kernel
theorem dX8_game_80 : decode cX8_game 80 = .ok (.iload_n 2, 1) := by decide +kernel
theorem dX8_game_81 : decode cX8_game 81 = .ok (.iload_n 3, 1) := by decide +kernel
theorem dX8_game_82 : decode cX8_game 82 = .ok (.iadd, 1) := by decide +kernel
theorem dX8_game_83 : decode cX8_game 83 = .ok (.iload 6, 2) := by decide +kernel
theorem dX8_game_85 : decode cX8_game 85 = .ok (.isub, 1) := by decide +kernel
theorem dX8_game_86 : decode cX8_game 86 = .ok (.istore 8, 2) := by decide +kernel
theorem dX8_game_88 : decode cX8_game 88 = .ok (.iload_n 2, 1) := by decide +kernel
theorem dX8_game_89 : decode cX8_game 89 = .ok (.iload_n 3, 1) := by decide +kernel
theorem dX8_game_90 : decode cX8_game 90 = .ok (.iadd, 1) := by decide +kernel
theorem dX8_game_91 : decode cX8_game 91 = .ok (.iload 7, 2) := by decide +kernel
theorem dX8_game_93 : decode cX8_game 93 = .ok (.isub, 1) := by decide +kernel
theorem dX8_game_94 : decode cX8_game 94 = .ok (.istore 9, 2) := by decide +kernel
theorem dX8_game_96 : decode cX8_game 96 = .ok (.aload_n 0, 1) := by decide +kernel
theorem dX8_game_97 : decode cX8_game 97 = .ok (.iload_n 1, 1) := by decide +kernel
theorem dX8_game_98 : decode cX8_game 98 = .ok (.iload 7, 2) := by decide +kernel
theorem dX8_game_100 : decode cX8_game 100 = .ok (.iload 6, 2) := by decide +kernel
theorem dX8_game_102 : decode cX8_game 102 = .ok (.invokevirtual 275, 3) := by decide +kernel
theorem dX8_game_105 : decode cX8_game 105 = .ok (.istore 10, 2) := by decide +kernel
theorem dX8_game_107 : decode cX8_game 107 = .ok (.iload 10, 2) := by decide +kernel
theorem dX8_game_109 : decode cX8_game 109 = .ok (.ifCond .eq 19, 3) := by decide +kernel
theorem dX8_game_112 : decode cX8_game 112 = .ok (.aload_n 0, 1) := by decide +kernel
theorem dX8_game_113 : decode cX8_game 113 = .ok (.iload_n 1, 1) := by decide +kernel
theorem dX8_game_114 : decode cX8_game 114 = .ok (.iload 7, 2) := by decide +kernel
theorem dX8_game_116 : decode cX8_game 116 = .ok (.iload 8, 2) := by decide +kernel
theorem dX8_game_118 : decode cX8_game 118 = .ok (.invokevirtual 275, 3) := by decide +kernel
theorem dX8_game_121 : decode cX8_game 121 = .ok (.ifCond .ne 7, 3) := by decide +kernel
theorem dX8_game_124 : decode cX8_game 124 = .ok (.iconst 1, 1) := by decide +kernel
theorem dX8_game_125 : decode cX8_game 125 = .ok (.goto 4, 3) := by decide +kernel
theorem dX8_game_128 : decode cX8_game 128 = .ok (.iconst 0, 1) := by decide +kernel
theorem dX8_game_129 : decode cX8_game 129 = .ok (.istore 11, 2) := by decide +kernel
theorem dX8_game_131 : decode cX8_game 131 = .ok (.iload 10, 2) := by decide +kernel
theorem dX8_game_133 : decode cX8_game 133 = .ok (.ifCond .ne 19, 3) := by decide +kernel
theorem dX8_game_136 : decode cX8_game 136 = .ok (.aload_n 0, 1) := by decide +kernel
theorem dX8_game_137 : decode cX8_game 137 = .ok (.iload_n 1, 1) := by decide +kernel
theorem dX8_game_138 : decode cX8_game 138 = .ok (.iload 9, 2) := by decide +kernel
theorem dX8_game_140 : decode cX8_game 140 = .ok (.iload 6, 2) := by decide +kernel
theorem dX8_game_142 : decode cX8_game 142 = .ok (.invokevirtual 275, 3) := by decide +kernel
theorem dX8_game_145 : decode cX8_game 145 = .ok (.ifCond .eq 7, 3) := by decide +kernel
theorem dX8_game_148 : decode cX8_game 148 = .ok (.iconst 1, 1) := by decide +kernel
theorem dX8_game_149 : decode cX8_game 149 = .ok (.goto 4, 3) := by decide +kernel
theorem dX8_game_152 : decode cX8_game 152 = .ok (.iconst 0, 1) := by decide +kernel
theorem dX8_game_153 : decode cX8_game 153 = .ok (.istore 12, 2) := by decide +kernel
theorem dX8_game_155 : decode cX8_game 155 = .ok (.iload 11, 2) := by decide +kernel
theorem dX8_game_157 : decode cX8_game 157 = .ok (.ifCond .ne 17, 3) := by decide +kernel
theorem dX8_game_160 : decode cX8_game 160 = .ok (.iload 12, 2) := by decide +kernel
theorem dX8_game_162 : decode cX8_game 162 = .ok (.ifCond .ne 12, 3) := by decide +kernel
theorem dX8_game_165 : decode cX8_game 165 = .ok (.iload 4, 2) := by decide +kernel
theorem dX8_game_167 : decode cX8_game 167 = .ok (.iconst 1, 1) := by decide +kernel
theorem dX8_game_168 : decode cX8_game 168 = .ok (.iload 5, 2) := by decide +kernel
theorem dX8_game_170 : decode cX8_game 170 = .ok (.ishl, 1) := by decide +kernel
theorem dX8_game_171 : decode cX8_game 171 = .ok (.ior, 1) := by decide +kernel
theorem dX8_game_172 : decode cX8_game 172 = .ok (.istore 4, 2) := by decide +kernel
theorem dX8_game_174 : decode cX8_game 174 = .ok (.iinc 5 1, 3) := by decide +kernel
theorem dX8_game_177 : decode cX8_game 177 = .ok (.goto (-131), 3) := by decide +kernel
theorem dX8_game_180 : decode cX8_game 180 = .ok (.iload 4, 2) := by decide +kernel
theorem dX8_game_182 : decode cX8_game 182 = .ok (.ireturn, 1) := by decide +kernel
theorem dX8_fails_0 : decode cX8_fails 0 = .ok (.iload_n 1, 1) := by decide +kernel
theorem dX8_fails_1 : decode cX8_fails 1 = .ok (.invokestatic 74, 3) := by decide +kernel
theorem dX8_fails_4 : decode cX8_fails 4 = .ok (.ifCond .eq 13, 3) := by decide +kernel
theorem dX8_fails_7 : decode cX8_fails 7 = .ok (.iload_n 2, 1) := by decide +kernel
theorem dX8_fails_8 : decode cX8_fails 8 = .ok (.iconst 0, 1) := by decide +kernel
theorem dX8_fails_9 : decode cX8_fails 9 = .ok (.bipush 10, 2) := by decide +kernel
theorem dX8_fails_11 : decode cX8_fails 11 = .ok (.invokestatic 104, 3) := by decide +kernel
theorem dX8_fails_14 : decode cX8_fails 14 = .ok (.ifCond .ne 10, 3) := by decide +kernel
theorem dX8_fails_17 : decode cX8_fails 17 = .ok (.aload_n 0, 1) := by decide +kernel
theorem dX8_fails_18 : decode cX8_fails 18 = .ok (.bipush (-2), 2) := by decide +kernel
theorem dX8_fails_20 : decode cX8_fails 20 = .ok (.invokevirtual 80, 3) := by decide +kernel
theorem dX8_fails_23 : decode cX8_fails 23 = .ok (.ireturn, 1) := by decide +kernel
theorem dX8_fails_24 : decode cX8_fails 24 = .ok (.aload_n 0, 1) := by decide +kernel
theorem dX8_fails_25 : decode cX8_fails 25 = .ok (.getfield 10, 3) := by decide +kernel
theorem dX8_fails_28 : decode cX8_fails 28 = .ok (.getfield 60, 3) := by decide +kernel
theorem dX8_fails_31 : decode cX8_fails 31 = .ok (.invokevirtual 166, 3) := by decide +kernel
theorem dX8_fails_34 : decode cX8_fails 34 = .ok (.istore_n 3, 1) := by decide +kernel
theorem dX8_fails_35 : decode cX8_fails 35 = .ok (.lconst 0, 1) := by decide +kernel
theorem dX8_fails_36 : decode cX8_fails 36 = .ok (.lstore 4, 2) := by decide +kernel
theorem dX8_fails_38 : decode cX8_fails 38 = .ok (.iconst 0, 1) := by decide +kernel
theorem dX8_fails_39 : decode cX8_fails 39 = .ok (.istore 6, 2) := by decide +kernel
theorem dX8_fails_41 : decode cX8_fails 41 = .ok (.iload 6, 2) := by decide +kernel
theorem dX8_fails_43 : decode cX8_fails 43 = .ok (.bipush 32, 2) := by decide +kernel
theorem dX8_fails_45 : decode cX8_fails 45 = .ok (.if_icmp .ge 81, 3) := by decide +kernel
theorem dX8_fails_48 : decode cX8_fails 48 = .ok (.iload 6, 2) := by decide +kernel
theorem dX8_fails_50 : decode cX8_fails 50 = .ok (.iload_n 3, 1) := by decide +kernel
theorem dX8_fails_51 : decode cX8_fails 51 = .ok (.iconst (-1), 1) := by decide +kernel
theorem dX8_fails_52 : decode cX8_fails 52 = .ok (.ixor, 1) := by decide +kernel
theorem dX8_fails_53 : decode cX8_fails 53 = .ok (.iand, 1) := by decide +kernel
theorem dX8_fails_54 : decode cX8_fails 54 = .ok (.ifCond .ne 66, 3) := by decide +kernel
theorem dX8_fails_57 : decode cX8_fails 57 = .ok (.aload_n 0, 1) := by decide +kernel
theorem dX8_fails_58 : decode cX8_fails 58 = .ok (.getfield 34, 3) := by decide +kernel
theorem dX8_fails_61 : decode cX8_fails 61 = .ok (.aload_n 0, 1) := by decide +kernel
theorem dX8_fails_62 : decode cX8_fails 62 = .ok (.getfield 10, 3) := by decide +kernel
theorem dX8_fails_65 : decode cX8_fails 65 = .ok (.getfield 60, 3) := by decide +kernel
theorem dX8_fails_68 : decode cX8_fails 68 = .ok (.iload 6, 2) := by decide +kernel
theorem dX8_fails_70 : decode cX8_fails 70 = .ok (.aload_n 0, 1) := by decide +kernel
theorem dX8_fails_71 : decode cX8_fails 71 = .ok (.getfield 10, 3) := by decide +kernel
theorem dX8_fails_74 : decode cX8_fails 74 = .ok (.getfield 60, 3) := by decide +kernel
theorem dX8_fails_77 : decode cX8_fails 77 = .ok (.iconst 0, 1) := by decide +kernel
theorem dX8_fails_78 : decode cX8_fails 78 = .ok (.invokevirtual 160, 3) := by decide +kernel
theorem dX8_fails_81 : decode cX8_fails 81 = .ok (.invokevirtual 191, 3) := by decide +kernel
theorem dX8_fails_84 : decode cX8_fails 84 = .ok (.aload_n 0, 1) := by decide +kernel
theorem dX8_fails_85 : decode cX8_fails 85 = .ok (.getfield 34, 3) := by decide +kernel
theorem dX8_fails_88 : decode cX8_fails 88 = .ok (.aload_n 0, 1) := by decide +kernel
theorem dX8_fails_89 : decode cX8_fails 89 = .ok (.getfield 10, 3) := by decide +kernel
theorem dX8_fails_92 : decode cX8_fails 92 = .ok (.getfield 60, 3) := by decide +kernel
theorem dX8_fails_95 : decode cX8_fails 95 = .ok (.iload_n 1, 1) := by decide +kernel
theorem dX8_fails_96 : decode cX8_fails 96 = .ok (.invokevirtual 195, 3) := by decide +kernel
theorem dX8_fails_99 : decode cX8_fails 99 = .ok (.invokestatic 206, 3) := by decide +kernel
theorem dX8_fails_102 : decode cX8_fails 102 = .ok (.istore 7, 2) := by decide +kernel
theorem dX8_fails_104 : decode cX8_fails 104 = .ok (.lload 4, 2) := by decide +kernel
theorem dX8_fails_106 : decode cX8_fails 106 = .ok (.iload 7, 2) := by decide +kernel
theorem dX8_fails_108 : decode cX8_fails 108 = .ok (.i2l, 1) := by decide +kernel
theorem dX8_fails_109 : decode cX8_fails 109 = .ok (.iload_n 3, 1) := by decide +kernel
theorem dX8_fails_110 : decode cX8_fails 110 = .ok (.iload 6, 2) := by decide +kernel
theorem dX8_fails_112 : decode cX8_fails 112 = .ok (.iload_n 2, 1) := by decide +kernel
theorem dX8_fails_113 : decode cX8_fails 113 = .ok (.invokestatic 278, 3) := by decide +kernel
theorem dX8_fails_116 : decode cX8_fails 116 = .ok (.lmul, 1) := by decide +kernel
theorem dX8_fails_117 : decode cX8_fails 117 = .ok (.ladd, 1) := by decide +kernel
theorem dX8_fails_118 : decode cX8_fails 118 = .ok (.lstore 4, 2) := by decide +kernel
theorem dX8_fails_120 : decode cX8_fails 120 = .ok (.iinc 6 1, 3) := by decide +kernel
theorem dX8_fails_123 : decode cX8_fails 123 = .ok (.goto (-82), 3) := by decide +kernel
theorem dX8_fails_126 : decode cX8_fails 126 = .ok (.aload_n 0, 1) := by decide +kernel
theorem dX8_fails_127 : decode cX8_fails 127 = .ok (.lload 4, 2) := by decide +kernel
theorem dX8_fails_129 : decode cX8_fails 129 = .ok (.ldc2_w 282, 3) := by decide +kernel
theorem dX8_fails_132 : decode cX8_fails 132 = .ok (.iload_n 3, 1) := by decide +kernel
theorem dX8_fails_133 : decode cX8_fails 133 = .ok (.invokestatic 206, 3) := by decide +kernel
theorem dX8_fails_136 : decode cX8_fails 136 = .ok (.invokestatic 284, 3) := by decide +kernel
theorem dX8_fails_139 : decode cX8_fails 139 = .ok (.invokevirtual 288, 3) := by decide +kernel
theorem dX8_fails_142 : decode cX8_fails 142 = .ok (.iconst 1, 1) := by decide +kernel
theorem dX8_fails_143 : decode cX8_fails 143 = .ok (.ireturn, 1) := by decide +kernel
theorem dX8_years_0 : decode cX8_years 0 = .ok (.iload_n 1, 1) := by decide +kernel
theorem dX8_years_1 : decode cX8_years 1 = .ok (.iconst 0, 1) := by decide +kernel
theorem dX8_years_2 : decode cX8_years 2 = .ok (.ldc_w 292, 3) := by decide +kernel
theorem dX8_years_5 : decode cX8_years 5 = .ok (.invokestatic 104, 3) := by decide +kernel
theorem dX8_years_8 : decode cX8_years 8 = .ok (.ifCond .eq 13, 3) := by decide +kernel
theorem dX8_years_11 : decode cX8_years 11 = .ok (.iload_n 2, 1) := by decide +kernel
theorem dX8_years_12 : decode cX8_years 12 = .ok (.iconst 0, 1) := by decide +kernel
theorem dX8_years_13 : decode cX8_years 13 = .ok (.bipush 60, 2) := by decide +kernel
theorem dX8_years_15 : decode cX8_years 15 = .ok (.invokestatic 104, 3) := by decide +kernel
theorem dX8_years_18 : decode cX8_years 18 = .ok (.ifCond .ne 10, 3) := by decide +kernel
theorem dX8_years_21 : decode cX8_years 21 = .ok (.aload_n 0, 1) := by decide +kernel
theorem dX8_years_22 : decode cX8_years 22 = .ok (.bipush (-2), 2) := by decide +kernel
theorem dX8_years_24 : decode cX8_years 24 = .ok (.invokevirtual 80, 3) := by decide +kernel
theorem dX8_years_27 : decode cX8_years 27 = .ok (.ireturn, 1) := by decide +kernel
theorem dX8_years_28 : decode cX8_years 28 = .ok (.iload_n 1, 1) := by decide +kernel
theorem dX8_years_29 : decode cX8_years 29 = .ok (.i2l, 1) := by decide +kernel
theorem dX8_years_30 : decode cX8_years 30 = .ok (.lstore_n 3, 1) := by decide +kernel
theorem dX8_years_31 : decode cX8_years 31 = .ok (.iconst 0, 1) := by decide +kernel
theorem dX8_years_32 : decode cX8_years 32 = .ok (.istore 5, 2) := by decide +kernel
theorem dX8_years_34 : decode cX8_years 34 = .ok (.iconst 0, 1) := by decide +kernel
theorem dX8_years_35 : decode cX8_years 35 = .ok (.istore 6, 2) := by decide +kernel
theorem dX8_years_37 : decode cX8_years 37 = .ok (.iload 6, 2) := by decide +kernel
theorem dX8_years_39 : decode cX8_years 39 = .ok (.iload_n 2, 1) := by decide +kernel
theorem dX8_years_40 : decode cX8_years 40 = .ok (.if_icmp .ge 71, 3) := by decide +kernel
theorem dX8_years_43 : decode cX8_years 43 = .ok (.lload_n 3, 1) := by decide +kernel
theorem dX8_years_44 : decode cX8_years 44 = .ok (.ldc2_w 293, 3) := by decide +kernel
theorem dX8_years_47 : decode cX8_years 47 = .ok (.lmul, 1) := by decide +kernel
theorem dX8_years_48 : decode cX8_years 48 = .ok (.ldc2_w 295, 3) := by decide +kernel
theorem dX8_years_51 : decode cX8_years 51 = .ok (.ladd, 1) := by decide +kernel
theorem dX8_years_52 : decode cX8_years 52 = .ok (.ldc2_w 297, 3) := by decide +kernel
theorem dX8_years_55 : decode cX8_years 55 = .ok (.lrem, 1) := by decide +kernel
theorem dX8_years_56 : decode cX8_years 56 = .ok (.lstore_n 3, 1) := by decide +kernel
theorem dX8_years_57 : decode cX8_years 57 = .ok (.lload_n 3, 1) := by decide +kernel
theorem dX8_years_58 : decode cX8_years 58 = .ok (.ldc2_w 299, 3) := by decide +kernel
theorem dX8_years_61 : decode cX8_years 61 = .ok (.ldiv, 1) := by decide +kernel
theorem dX8_years_62 : decode cX8_years 62 = .ok (.ldc2_w 301, 3) := by decide +kernel
theorem dX8_years_65 : decode cX8_years 65 = .ok (.lrem, 1) := by decide +kernel
theorem dX8_years_66 : decode cX8_years 66 = .ok (.l2i, 1) := by decide +kernel
theorem dX8_years_67 : decode cX8_years 67 = .ok (.istore 7, 2) := by decide +kernel
theorem dX8_years_69 : decode cX8_years 69 = .ok (.iload 5, 2) := by decide +kernel
theorem dX8_years_71 : decode cX8_years 71 = .ok (.aload_n 0, 1) := by decide +kernel
theorem dX8_years_72 : decode cX8_years 72 = .ok (.getfield 34, 3) := by decide +kernel
theorem dX8_years_75 : decode cX8_years 75 = .ok (.aload_n 0, 1) := by decide +kernel
theorem dX8_years_76 : decode cX8_years 76 = .ok (.getfield 10, 3) := by decide +kernel
theorem dX8_years_79 : decode cX8_years 79 = .ok (.getfield 60, 3) := by decide +kernel
theorem dX8_years_82 : decode cX8_years 82 = .ok (.iload 7, 2) := by decide +kernel
theorem dX8_years_84 : decode cX8_years 84 = .ok (.aload_n 0, 1) := by decide +kernel
theorem dX8_years_85 : decode cX8_years 85 = .ok (.getfield 10, 3) := by decide +kernel
theorem dX8_years_88 : decode cX8_years 88 = .ok (.getfield 60, 3) := by decide +kernel
theorem dX8_years_91 : decode cX8_years 91 = .ok (.iload 6, 2) := by decide +kernel
theorem dX8_years_93 : decode cX8_years 93 = .ok (.invokevirtual 160, 3) := by decide +kernel
theorem dX8_years_96 : decode cX8_years 96 = .ok (.invokevirtual 184, 3) := by decide +kernel
theorem dX8_years_99 : decode cX8_years 99 = .ok (.invokestatic 206, 3) := by decide +kernel
theorem dX8_years_102 : decode cX8_years 102 = .ok (.iadd, 1) := by decide +kernel
theorem dX8_years_103 : decode cX8_years 103 = .ok (.istore 5, 2) := by decide +kernel
theorem dX8_years_105 : decode cX8_years 105 = .ok (.iinc 6 1, 3) := by decide +kernel
theorem dX8_years_108 : decode cX8_years 108 = .ok (.goto (-71), 3) := by decide +kernel
theorem dX8_years_111 : decode cX8_years 111 = .ok (.iload 5, 2) := by decide +kernel
theorem dX8_years_113 : decode cX8_years 113 = .ok (.ireturn, 1) := by decide +kernel
theorem dX8_part_0 : decode cX8_part 0 = .ok (.iload_n 1, 1) := by decide +kernel
theorem dX8_part_1 : decode cX8_part 1 = .ok (.iconst 0, 1) := by decide +kernel
theorem dX8_part_2 : decode cX8_part 2 = .ok (.iconst 1, 1) := by decide +kernel
theorem dX8_part_3 : decode cX8_part 3 = .ok (.invokestatic 104, 3) := by decide +kernel
theorem dX8_part_6 : decode cX8_part 6 = .ok (.ifCond .ne 11, 3) := by decide +kernel
theorem dX8_part_9 : decode cX8_part 9 = .ok (.aload_n 0, 1) := by decide +kernel
theorem dX8_part_10 : decode cX8_part 10 = .ok (.bipush (-2), 2) := by decide +kernel
theorem dX8_part_12 : decode cX8_part 12 = .ok (.invokevirtual 80, 3) := by decide +kernel
theorem dX8_part_15 : decode cX8_part 15 = .ok (.i2l, 1) := by decide +kernel
theorem dX8_part_16 : decode cX8_part 16 = .ok (.lreturn, 1) := by decide +kernel
theorem dX8_part_17 : decode cX8_part 17 = .ok (.iload_n 1, 1) := by decide +kernel
theorem dX8_part_18 : decode cX8_part 18 = .ok (.ifCond .ne 10, 3) := by decide +kernel
theorem dX8_part_21 : decode cX8_part 21 = .ok (.aload_n 0, 1) := by decide +kernel
theorem dX8_part_22 : decode cX8_part 22 = .ok (.getfield 303, 3) := by decide +kernel
theorem dX8_part_25 : decode cX8_part 25 = .ok (.goto 7, 3) := by decide +kernel
theorem dX8_part_28 : decode cX8_part 28 = .ok (.aload_n 0, 1) := by decide +kernel
theorem dX8_part_29 : decode cX8_part 29 = .ok (.getfield 56, 3) := by decide +kernel
theorem dX8_part_32 : decode cX8_part 32 = .ok (.lreturn, 1) := by decide +kernel
theorem dX8_image_0 : decode cX8_image 0 = .ok (.aload_n 0, 1) := by decide +kernel
theorem dX8_image_1 : decode cX8_image 1 = .ok (.iload_n 1, 1) := by decide +kernel
theorem dX8_image_2 : decode cX8_image 2 = .ok (.invokevirtual 306, 3) := by decide +kernel
theorem dX8_image_5 : decode cX8_image 5 = .ok (.ifCond .ne 10, 3) := by decide +kernel
theorem dX8_image_8 : decode cX8_image 8 = .ok (.aload_n 0, 1) := by decide +kernel
theorem dX8_image_9 : decode cX8_image 9 = .ok (.bipush (-2), 2) := by decide +kernel
theorem dX8_image_11 : decode cX8_image 11 = .ok (.invokevirtual 80, 3) := by decide +kernel
theorem dX8_image_14 : decode cX8_image 14 = .ok (.ireturn, 1) := by decide +kernel
theorem dX8_image_15 : decode cX8_image 15 = .ok (.aload_n 0, 1) := by decide +kernel
theorem dX8_image_16 : decode cX8_image 16 = .ok (.getfield 16, 3) := by decide +kernel
theorem dX8_image_19 : decode cX8_image 19 = .ok (.iload_n 1, 1) := by decide +kernel
theorem dX8_image_20 : decode cX8_image 20 = .ok (.aaload, 1) := by decide +kernel
theorem dX8_image_21 : decode cX8_image 21 = .ok (.aload_n 0, 1) := by decide +kernel
theorem dX8_image_22 : decode cX8_image 22 = .ok (.getfield 10, 3) := by decide +kernel
theorem dX8_image_25 : decode cX8_image 25 = .ok (.invokevirtual 309, 3) := by decide +kernel
theorem dX8_image_28 : decode cX8_image 28 = .ok (.aload_n 0, 1) := by decide +kernel
theorem dX8_image_29 : decode cX8_image 29 = .ok (.getfield 20, 3) := by decide +kernel
theorem dX8_image_32 : decode cX8_image 32 = .ok (.iload_n 1, 1) := by decide +kernel
theorem dX8_image_33 : decode cX8_image 33 = .ok (.iconst 1, 1) := by decide +kernel
theorem dX8_image_34 : decode cX8_image 34 = .ok (.bastore, 1) := by decide +kernel
theorem dX8_image_35 : decode cX8_image 35 = .ok (.iconst 1, 1) := by decide +kernel
theorem dX8_image_36 : decode cX8_image 36 = .ok (.ireturn, 1) := by decide +kernel
theorem dX8_from_0 : decode cX8_from 0 = .ok (.aload_n 0, 1) := by decide +kernel
theorem dX8_from_1 : decode cX8_from 1 = .ok (.iload_n 1, 1) := by decide +kernel
theorem dX8_from_2 : decode cX8_from 2 = .ok (.invokevirtual 306, 3) := by decide +kernel
theorem dX8_from_5 : decode cX8_from 5 = .ok (.ifCond .ne 10, 3) := by decide +kernel
theorem dX8_from_8 : decode cX8_from 8 = .ok (.aload_n 0, 1) := by decide +kernel
theorem dX8_from_9 : decode cX8_from 9 = .ok (.bipush (-2), 2) := by decide +kernel
theorem dX8_from_11 : decode cX8_from 11 = .ok (.invokevirtual 80, 3) := by decide +kernel
theorem dX8_from_14 : decode cX8_from 14 = .ok (.ireturn, 1) := by decide +kernel
theorem dX8_from_15 : decode cX8_from 15 = .ok (.aload_n 0, 1) := by decide +kernel
theorem dX8_from_16 : decode cX8_from 16 = .ok (.getfield 20, 3) := by decide +kernel
theorem dX8_from_19 : decode cX8_from 19 = .ok (.iload_n 1, 1) := by decide +kernel
theorem dX8_from_20 : decode cX8_from 20 = .ok (.baload, 1) := by decide +kernel
theorem dX8_from_21 : decode cX8_from 21 = .ok (.ifCond .ne 10, 3) := by decide +kernel
theorem dX8_from_24 : decode cX8_from 24 = .ok (.aload_n 0, 1) := by decide +kernel
theorem dX8_from_25 : decode cX8_from 25 = .ok (.bipush (-3), 2) := by decide +kernel
theorem dX8_from_27 : decode cX8_from 27 = .ok (.invokevirtual 80, 3) := by decide +kernel
theorem dX8_from_30 : decode cX8_from 30 = .ok (.ireturn, 1) := by decide +kernel
theorem dX8_from_31 : decode cX8_from 31 = .ok (.aload_n 0, 1) := by decide +kernel
theorem dX8_from_32 : decode cX8_from 32 = .ok (.getfield 10, 3) := by decide +kernel
theorem dX8_from_35 : decode cX8_from 35 = .ok (.aload_n 0, 1) := by decide +kernel
theorem dX8_from_36 : decode cX8_from 36 = .ok (.getfield 16, 3) := by decide +kernel
theorem dX8_from_39 : decode cX8_from 39 = .ok (.iload_n 1, 1) := by decide +kernel
theorem dX8_from_40 : decode cX8_from 40 = .ok (.aaload, 1) := by decide +kernel
theorem dX8_from_41 : decode cX8_from 41 = .ok (.invokevirtual 309, 3) := by decide +kernel
theorem dX8_from_44 : decode cX8_from 44 = .ok (.iconst 1, 1) := by decide +kernel
theorem dX8_from_45 : decode cX8_from 45 = .ok (.ireturn, 1) := by decide +kernel
theorem dX8_status_0 : decode cX8_status 0 = .ok (.iload_n 1, 1) := by decide +kernel
theorem dX8_status_1 : decode cX8_status 1 = .ok (.tableswitch 42 0 2 #[27, 32, 37], 27) := by decide +kernel
theorem dX8_status_28 : decode cX8_status 28 = .ok (.aload_n 0, 1) := by decide +kernel
theorem dX8_status_29 : decode cX8_status 29 = .ok (.getfield 312, 3) := by decide +kernel
theorem dX8_status_32 : decode cX8_status 32 = .ok (.ireturn, 1) := by decide +kernel
theorem dX8_status_33 : decode cX8_status 33 = .ok (.aload_n 0, 1) := by decide +kernel
theorem dX8_status_34 : decode cX8_status 34 = .ok (.getfield 315, 3) := by decide +kernel
theorem dX8_status_37 : decode cX8_status 37 = .ok (.ireturn, 1) := by decide +kernel
theorem dX8_status_38 : decode cX8_status 38 = .ok (.aload_n 0, 1) := by decide +kernel
theorem dX8_status_39 : decode cX8_status 39 = .ok (.getfield 318, 3) := by decide +kernel
theorem dX8_status_42 : decode cX8_status 42 = .ok (.ireturn, 1) := by decide +kernel
theorem dX8_status_43 : decode cX8_status 43 = .ok (.aload_n 0, 1) := by decide +kernel
theorem dX8_status_44 : decode cX8_status 44 = .ok (.bipush (-2), 2) := by decide +kernel
theorem dX8_status_46 : decode cX8_status 46 = .ok (.invokevirtual 80, 3) := by decide +kernel
theorem dX8_status_49 : decode cX8_status 49 = .ok (.pop, 1) := by decide +kernel
theorem dX8_status_50 : decode cX8_status 50 = .ok (.iconst (-1), 1) := by decide +kernel
theorem dX8_status_51 : decode cX8_status 51 = .ok (.ireturn, 1) := by decide +kernel
theorem dX8_count_0 : decode cX8_count 0 = .ok (.iload_n 1, 1) := by decide +kernel
theorem dX8_count_1 : decode cX8_count 1 = .ok (.iconst 0, 1) := by decide +kernel
theorem dX8_count_2 : decode cX8_count 2 = .ok (.bipush 10, 2) := by decide +kernel
theorem dX8_count_4 : decode cX8_count 4 = .ok (.invokestatic 104, 3) := by decide +kernel
theorem dX8_count_7 : decode cX8_count 7 = .ok (.ifCond .eq 11, 3) := by decide +kernel
theorem dX8_count_10 : decode cX8_count 10 = .ok (.aload_n 0, 1) := by decide +kernel
theorem dX8_count_11 : decode cX8_count 11 = .ok (.iload_n 1, 1) := by decide +kernel
theorem dX8_count_12 : decode cX8_count 12 = .ok (.invokevirtual 321, 3) := by decide +kernel
theorem dX8_count_15 : decode cX8_count 15 = .ok (.goto 9, 3) := by decide +kernel
theorem dX8_count_18 : decode cX8_count 18 = .ok (.aload_n 0, 1) := by decide +kernel
theorem dX8_count_19 : decode cX8_count 19 = .ok (.bipush (-2), 2) := by decide +kernel
theorem dX8_count_21 : decode cX8_count 21 = .ok (.invokevirtual 80, 3) := by decide +kernel
theorem dX8_count_24 : decode cX8_count 24 = .ok (.ireturn, 1) := by decide +kernel
theorem dX8_digest_0 : decode cX8_digest 0 = .ok (.ldc2_w 324, 3) := by decide +kernel
theorem dX8_digest_3 : decode cX8_digest 3 = .ok (.lstore_n 1, 1) := by decide +kernel
theorem dX8_digest_4 : decode cX8_digest 4 = .ok (.iconst 0, 1) := by decide +kernel
theorem dX8_digest_5 : decode cX8_digest 5 = .ok (.istore_n 3, 1) := by decide +kernel
theorem dX8_digest_6 : decode cX8_digest 6 = .ok (.iload_n 3, 1) := by decide +kernel
theorem dX8_digest_7 : decode cX8_digest 7 = .ok (.bipush 10, 2) := by decide +kernel
theorem dX8_digest_9 : decode cX8_digest 9 = .ok (.if_icmp .gt 22, 3) := by decide +kernel
theorem dX8_digest_12 : decode cX8_digest 12 = .ok (.ldc2_w 326, 3) := by decide +kernel
theorem dX8_digest_15 : decode cX8_digest 15 = .ok (.lload_n 1, 1) := by decide +kernel
theorem dX8_digest_16 : decode cX8_digest 16 = .ok (.lmul, 1) := by decide +kernel
theorem dX8_digest_17 : decode cX8_digest 17 = .ok (.aload_n 0, 1) := by decide +kernel
theorem dX8_digest_18 : decode cX8_digest 18 = .ok (.iload_n 3, 1) := by decide +kernel
theorem dX8_digest_19 : decode cX8_digest 19 = .ok (.invokevirtual 321, 3) := by decide +kernel
theorem dX8_digest_22 : decode cX8_digest 22 = .ok (.i2l, 1) := by decide +kernel
theorem dX8_digest_23 : decode cX8_digest 23 = .ok (.ladd, 1) := by decide +kernel
theorem dX8_digest_24 : decode cX8_digest 24 = .ok (.lstore_n 1, 1) := by decide +kernel
theorem dX8_digest_25 : decode cX8_digest 25 = .ok (.iinc 3 1, 3) := by decide +kernel
theorem dX8_digest_28 : decode cX8_digest 28 = .ok (.goto (-22), 3) := by decide +kernel
theorem dX8_digest_31 : decode cX8_digest 31 = .ok (.iconst 0, 1) := by decide +kernel
theorem dX8_digest_32 : decode cX8_digest 32 = .ok (.istore_n 3, 1) := by decide +kernel
theorem dX8_digest_33 : decode cX8_digest 33 = .ok (.iload_n 3, 1) := by decide +kernel
theorem dX8_digest_34 : decode cX8_digest 34 = .ok (.aload_n 0, 1) := by decide +kernel
theorem dX8_digest_35 : decode cX8_digest 35 = .ok (.getfield 10, 3) := by decide +kernel
theorem dX8_digest_38 : decode cX8_digest 38 = .ok (.getfield 60, 3) := by decide +kernel
theorem dX8_digest_41 : decode cX8_digest 41 = .ok (.getfield 84, 3) := by decide +kernel
theorem dX8_digest_44 : decode cX8_digest 44 = .ok (.if_icmp .ge 45, 3) := by decide +kernel
theorem dX8_digest_47 : decode cX8_digest 47 = .ok (.iconst 0, 1) := by decide +kernel
theorem dX8_digest_48 : decode cX8_digest 48 = .ok (.istore 4, 2) := by decide +kernel
theorem dX8_digest_50 : decode cX8_digest 50 = .ok (.iload 4, 2) := by decide +kernel
theorem dX8_digest_52 : decode cX8_digest 52 = .ok (.iconst 3, 1) := by decide +kernel
theorem dX8_digest_53 : decode cX8_digest 53 = .ok (.if_icmp .gt 30, 3) := by decide +kernel
theorem dX8_digest_56 : decode cX8_digest 56 = .ok (.ldc2_w 326, 3) := by decide +kernel
theorem dX8_digest_59 : decode cX8_digest 59 = .ok (.lload_n 1, 1) := by decide +kernel
theorem dX8_digest_60 : decode cX8_digest 60 = .ok (.lmul, 1) := by decide +kernel
theorem dX8_digest_61 : decode cX8_digest 61 = .ok (.aload_n 0, 1) := by decide +kernel
theorem dX8_digest_62 : decode cX8_digest 62 = .ok (.getfield 10, 3) := by decide +kernel
theorem dX8_digest_65 : decode cX8_digest 65 = .ok (.getfield 60, 3) := by decide +kernel
theorem dX8_digest_68 : decode cX8_digest 68 = .ok (.iload_n 3, 1) := by decide +kernel
theorem dX8_digest_69 : decode cX8_digest 69 = .ok (.iload 4, 2) := by decide +kernel
theorem dX8_digest_71 : decode cX8_digest 71 = .ok (.invokevirtual 154, 3) := by decide +kernel
theorem dX8_digest_74 : decode cX8_digest 74 = .ok (.i2l, 1) := by decide +kernel
theorem dX8_digest_75 : decode cX8_digest 75 = .ok (.ladd, 1) := by decide +kernel
theorem dX8_digest_76 : decode cX8_digest 76 = .ok (.lstore_n 1, 1) := by decide +kernel
theorem dX8_digest_77 : decode cX8_digest 77 = .ok (.iinc 4 1, 3) := by decide +kernel
theorem dX8_digest_80 : decode cX8_digest 80 = .ok (.goto (-30), 3) := by decide +kernel
theorem dX8_digest_83 : decode cX8_digest 83 = .ok (.iinc 3 1, 3) := by decide +kernel
theorem dX8_digest_86 : decode cX8_digest 86 = .ok (.goto (-53), 3) := by decide +kernel
theorem dX8_digest_89 : decode cX8_digest 89 = .ok (.iconst 0, 1) := by decide +kernel
theorem dX8_digest_90 : decode cX8_digest 90 = .ok (.istore_n 3, 1) := by decide +kernel
theorem dX8_digest_91 : decode cX8_digest 91 = .ok (.iload_n 3, 1) := by decide +kernel
theorem dX8_digest_92 : decode cX8_digest 92 = .ok (.aload_n 0, 1) := by decide +kernel
theorem dX8_digest_93 : decode cX8_digest 93 = .ok (.getfield 10, 3) := by decide +kernel
theorem dX8_digest_96 : decode cX8_digest 96 = .ok (.getfield 60, 3) := by decide +kernel
theorem dX8_digest_99 : decode cX8_digest 99 = .ok (.getfield 63, 3) := by decide +kernel
theorem dX8_digest_102 : decode cX8_digest 102 = .ok (.if_icmp .ge 45, 3) := by decide +kernel
theorem dX8_digest_105 : decode cX8_digest 105 = .ok (.iconst 0, 1) := by decide +kernel
theorem dX8_digest_106 : decode cX8_digest 106 = .ok (.istore 4, 2) := by decide +kernel
theorem dX8_digest_108 : decode cX8_digest 108 = .ok (.iload 4, 2) := by decide +kernel
theorem dX8_digest_110 : decode cX8_digest 110 = .ok (.iconst 2, 1) := by decide +kernel
theorem dX8_digest_111 : decode cX8_digest 111 = .ok (.if_icmp .gt 30, 3) := by decide +kernel
theorem dX8_digest_114 : decode cX8_digest 114 = .ok (.ldc2_w 326, 3) := by decide +kernel
theorem dX8_digest_117 : decode cX8_digest 117 = .ok (.lload_n 1, 1) := by decide +kernel
theorem dX8_digest_118 : decode cX8_digest 118 = .ok (.lmul, 1) := by decide +kernel
theorem dX8_digest_119 : decode cX8_digest 119 = .ok (.aload_n 0, 1) := by decide +kernel
theorem dX8_digest_120 : decode cX8_digest 120 = .ok (.getfield 10, 3) := by decide +kernel
theorem dX8_digest_123 : decode cX8_digest 123 = .ok (.getfield 60, 3) := by decide +kernel
theorem dX8_digest_126 : decode cX8_digest 126 = .ok (.iload_n 3, 1) := by decide +kernel
theorem dX8_digest_127 : decode cX8_digest 127 = .ok (.iload 4, 2) := by decide +kernel
theorem dX8_digest_129 : decode cX8_digest 129 = .ok (.invokevirtual 157, 3) := by decide +kernel
theorem dX8_digest_132 : decode cX8_digest 132 = .ok (.i2l, 1) := by decide +kernel
theorem dX8_digest_133 : decode cX8_digest 133 = .ok (.ladd, 1) := by decide +kernel
theorem dX8_digest_134 : decode cX8_digest 134 = .ok (.lstore_n 1, 1) := by decide +kernel
theorem dX8_digest_135 : decode cX8_digest 135 = .ok (.iinc 4 1, 3) := by decide +kernel
theorem dX8_digest_138 : decode cX8_digest 138 = .ok (.goto (-30), 3) := by decide +kernel
theorem dX8_digest_141 : decode cX8_digest 141 = .ok (.iinc 3 1, 3) := by decide +kernel
theorem dX8_digest_144 : decode cX8_digest 144 = .ok (.goto (-53), 3) := by decide +kernel
theorem dX8_digest_147 : decode cX8_digest 147 = .ok (.aload_n 0, 1) := by decide +kernel
theorem dX8_digest_148 : decode cX8_digest 148 = .ok (.getfield 10, 3) := by decide +kernel
theorem dX8_digest_151 : decode cX8_digest 151 = .ok (.getfield 232, 3) := by decide +kernel
theorem dX8_digest_154 : decode cX8_digest 154 = .ok (.lload_n 1, 1) := by decide +kernel
theorem dX8_digest_155 : decode cX8_digest 155 = .ok (.iconst 2, 1) := by decide +kernel
theorem dX8_digest_156 : decode cX8_digest 156 = .ok (.invokevirtual 328, 3) := by decide +kernel
theorem dX8_digest_159 : decode cX8_digest 159 = .ok (.lstore_n 1, 1) := by decide +kernel
theorem dX8_digest_160 : decode cX8_digest 160 = .ok (.aload_n 0, 1) := by decide +kernel
theorem dX8_digest_161 : decode cX8_digest 161 = .ok (.getfield 10, 3) := by decide +kernel
theorem dX8_digest_164 : decode cX8_digest 164 = .ok (.getfield 253, 3) := by decide +kernel
theorem dX8_digest_167 : decode cX8_digest 167 = .ok (.lload_n 1, 1) := by decide +kernel
theorem dX8_digest_168 : decode cX8_digest 168 = .ok (.iconst 5, 1) := by decide +kernel
theorem dX8_digest_169 : decode cX8_digest 169 = .ok (.invokevirtual 328, 3) := by decide +kernel
theorem dX8_digest_172 : decode cX8_digest 172 = .ok (.lstore_n 1, 1) := by decide +kernel
theorem dX8_digest_173 : decode cX8_digest 173 = .ok (.aload_n 0, 1) := by decide +kernel
theorem dX8_digest_174 : decode cX8_digest 174 = .ok (.getfield 10, 3) := by decide +kernel
theorem dX8_digest_177 : decode cX8_digest 177 = .ok (.getfield 256, 3) := by decide +kernel
theorem dX8_digest_180 : decode cX8_digest 180 = .ok (.lload_n 1, 1) := by decide +kernel
theorem dX8_digest_181 : decode cX8_digest 181 = .ok (.iconst 4, 1) := by decide +kernel
theorem dX8_digest_182 : decode cX8_digest 182 = .ok (.invokevirtual 328, 3) := by decide +kernel
theorem dX8_digest_185 : decode cX8_digest 185 = .ok (.lstore_n 1, 1) := by decide +kernel
theorem dX8_digest_186 : decode cX8_digest 186 = .ok (.ldc2_w 326, 3) := by decide +kernel
theorem dX8_digest_189 : decode cX8_digest 189 = .ok (.ldc2_w 326, 3) := by decide +kernel
theorem dX8_digest_192 : decode cX8_digest 192 = .ok (.lload_n 1, 1) := by decide +kernel
theorem dX8_digest_193 : decode cX8_digest 193 = .ok (.lmul, 1) := by decide +kernel
theorem dX8_digest_194 : decode cX8_digest 194 = .ok (.aload_n 0, 1) := by decide +kernel
theorem dX8_digest_195 : decode cX8_digest 195 = .ok (.getfield 303, 3) := by decide +kernel
theorem dX8_digest_198 : decode cX8_digest 198 = .ok (.ladd, 1) := by decide +kernel
theorem dX8_digest_199 : decode cX8_digest 199 = .ok (.lmul, 1) := by decide +kernel
theorem dX8_digest_200 : decode cX8_digest 200 = .ok (.aload_n 0, 1) := by decide +kernel
theorem dX8_digest_201 : decode cX8_digest 201 = .ok (.getfield 56, 3) := by decide +kernel
theorem dX8_digest_204 : decode cX8_digest 204 = .ok (.ladd, 1) := by decide +kernel
theorem dX8_digest_205 : decode cX8_digest 205 = .ok (.lreturn, 1) := by decide +kernel
theorem dX8_within_0 : decode cX8_within 0 = .ok (.iload_n 0, 1) := by decide +kernel
theorem dX8_within_1 : decode cX8_within 1 = .ok (.iload_n 1, 1) := by decide +kernel
theorem dX8_within_2 : decode cX8_within 2 = .ok (.if_icmp .lt 12, 3) := by decide +kernel
theorem dX8_within_5 : decode cX8_within 5 = .ok (.iload_n 0, 1) := by decide +kernel
theorem dX8_within_6 : decode cX8_within 6 = .ok (.iload_n 2, 1) := by decide +kernel
theorem dX8_within_7 : decode cX8_within 7 = .ok (.if_icmp .gt 7, 3) := by decide +kernel
theorem dX8_within_10 : decode cX8_within 10 = .ok (.iconst 1, 1) := by decide +kernel
theorem dX8_within_11 : decode cX8_within 11 = .ok (.goto 4, 3) := by decide +kernel
theorem dX8_within_14 : decode cX8_within 14 = .ok (.iconst 0, 1) := by decide +kernel
theorem dX8_within_15 : decode cX8_within 15 = .ok (.ireturn, 1) := by decide +kernel
theorem dX8_isKind_0 : decode cX8_isKind 0 = .ok (.iload_n 0, 1) := by decide +kernel
theorem dX8_isKind_1 : decode cX8_isKind 1 = .ok (.iconst 0, 1) := by decide +kernel
theorem dX8_isKind_2 : decode cX8_isKind 2 = .ok (.iconst 5, 1) := by decide +kernel
theorem dX8_isKind_3 : decode cX8_isKind 3 = .ok (.invokestatic 104, 3) := by decide +kernel
theorem dX8_isKind_6 : decode cX8_isKind 6 = .ok (.ireturn, 1) := by decide +kernel
theorem dX8_isCell_0 : decode cX8_isCell 0 = .ok (.iload_n 0, 1) := by decide +kernel
theorem dX8_isCell_1 : decode cX8_isCell 1 = .ok (.iconst 0, 1) := by decide +kernel
theorem dX8_isCell_2 : decode cX8_isCell 2 = .ok (.bipush 29, 2) := by decide +kernel
theorem dX8_isCell_4 : decode cX8_isCell 4 = .ok (.invokestatic 104, 3) := by decide +kernel
theorem dX8_isCell_7 : decode cX8_isCell 7 = .ok (.ireturn, 1) := by decide +kernel
theorem dX8_isLoud_0 : decode cX8_isLoud 0 = .ok (.iload_n 0, 1) := by decide +kernel
theorem dX8_isLoud_1 : decode cX8_isLoud 1 = .ok (.iconst 1, 1) := by decide +kernel
theorem dX8_isLoud_2 : decode cX8_isLoud 2 = .ok (.bipush 9, 2) := by decide +kernel
theorem dX8_isLoud_4 : decode cX8_isLoud 4 = .ok (.invokestatic 104, 3) := by decide +kernel
theorem dX8_isLoud_7 : decode cX8_isLoud 7 = .ok (.ireturn, 1) := by decide +kernel
theorem dX8_isDayStep_0 : decode cX8_isDayStep 0 = .ok (.iload_n 0, 1) := by decide +kernel
theorem dX8_isDayStep_1 : decode cX8_isDayStep 1 = .ok (.iconst 0, 1) := by decide +kernel
theorem dX8_isDayStep_2 : decode cX8_isDayStep 2 = .ok (.bipush 11, 2) := by decide +kernel
theorem dX8_isDayStep_4 : decode cX8_isDayStep 4 = .ok (.invokestatic 104, 3) := by decide +kernel
theorem dX8_isDayStep_7 : decode cX8_isDayStep 7 = .ok (.ireturn, 1) := by decide +kernel
theorem dX8_isFar_0 : decode cX8_isFar 0 = .ok (.iload_n 0, 1) := by decide +kernel
theorem dX8_isFar_1 : decode cX8_isFar 1 = .ok (.iconst 0, 1) := by decide +kernel
theorem dX8_isFar_2 : decode cX8_isFar 2 = .ok (.bipush 9, 2) := by decide +kernel
theorem dX8_isFar_4 : decode cX8_isFar 4 = .ok (.invokestatic 104, 3) := by decide +kernel
theorem dX8_isFar_7 : decode cX8_isFar 7 = .ok (.ireturn, 1) := by decide +kernel
theorem dX8_isPull_0 : decode cX8_isPull 0 = .ok (.iload_n 0, 1) := by decide +kernel
theorem dX8_isPull_1 : decode cX8_isPull 1 = .ok (.iconst 0, 1) := by decide +kernel
theorem dX8_isPull_2 : decode cX8_isPull 2 = .ok (.bipush 40, 2) := by decide +kernel
theorem dX8_isPull_4 : decode cX8_isPull 4 = .ok (.invokestatic 104, 3) := by decide +kernel
theorem dX8_isPull_7 : decode cX8_isPull 7 = .ok (.ireturn, 1) := by decide +kernel
theorem dX8_isImage_0 : decode cX8_isImage 0 = .ok (.iload_n 1, 1) := by decide +kernel
theorem dX8_isImage_1 : decode cX8_isImage 1 = .ok (.ifCond .lt 34, 3) := by decide +kernel
theorem dX8_isImage_4 : decode cX8_isImage 4 = .ok (.iload_n 1, 1) := by decide +kernel
theorem dX8_isImage_5 : decode cX8_isImage 5 = .ok (.aload_n 0, 1) := by decide +kernel
theorem dX8_isImage_6 : decode cX8_isImage 6 = .ok (.getfield 16, 3) := by decide +kernel
theorem dX8_isImage_9 : decode cX8_isImage 9 = .ok (.arraylength, 1) := by decide +kernel
theorem dX8_isImage_10 : decode cX8_isImage 10 = .ok (.if_icmp .ge 25, 3) := by decide +kernel
theorem dX8_isImage_13 : decode cX8_isImage 13 = .ok (.iload_n 1, 1) := by decide +kernel
theorem dX8_isImage_14 : decode cX8_isImage 14 = .ok (.aload_n 0, 1) := by decide +kernel
theorem dX8_isImage_15 : decode cX8_isImage 15 = .ok (.getfield 20, 3) := by decide +kernel
theorem dX8_isImage_18 : decode cX8_isImage 18 = .ok (.arraylength, 1) := by decide +kernel
theorem dX8_isImage_19 : decode cX8_isImage 19 = .ok (.if_icmp .ge 16, 3) := by decide +kernel
theorem dX8_isImage_22 : decode cX8_isImage 22 = .ok (.aload_n 0, 1) := by decide +kernel
theorem dX8_isImage_23 : decode cX8_isImage 23 = .ok (.getfield 16, 3) := by decide +kernel
theorem dX8_isImage_26 : decode cX8_isImage 26 = .ok (.iload_n 1, 1) := by decide +kernel
theorem dX8_isImage_27 : decode cX8_isImage 27 = .ok (.aaload, 1) := by decide +kernel
theorem dX8_isImage_28 : decode cX8_isImage 28 = .ok (.ifnull 7, 3) := by decide +kernel
theorem dX8_isImage_31 : decode cX8_isImage 31 = .ok (.iconst 1, 1) := by decide +kernel
theorem dX8_isImage_32 : decode cX8_isImage 32 = .ok (.goto 4, 3) := by decide +kernel
theorem dX8_isImage_35 : decode cX8_isImage 35 = .ok (.iconst 0, 1) := by decide +kernel
theorem dX8_isImage_36 : decode cX8_isImage 36 = .ok (.ireturn, 1) := by decide +kernel
theorem dX8_refuse_0 : decode cX8_refuse 0 = .ok (.iload_n 1, 1) := by decide +kernel
theorem dX8_refuse_1 : decode cX8_refuse 1 = .ok (.bipush (-2), 2) := by decide +kernel
theorem dX8_refuse_3 : decode cX8_refuse 3 = .ok (.if_icmp .ne 16, 3) := by decide +kernel
theorem dX8_refuse_6 : decode cX8_refuse 6 = .ok (.aload_n 0, 1) := by decide +kernel
theorem dX8_refuse_7 : decode cX8_refuse 7 = .ok (.dup, 1) := by decide +kernel
theorem dX8_refuse_8 : decode cX8_refuse 8 = .ok (.getfield 312, 3) := by decide +kernel
theorem dX8_refuse_11 : decode cX8_refuse 11 = .ok (.iconst 1, 1) := by decide +kernel
theorem dX8_refuse_12 : decode cX8_refuse 12 = .ok (.iadd, 1) := by decide +kernel
theorem dX8_refuse_13 : decode cX8_refuse 13 = .ok (.putfield 312, 3) := by decide +kernel
theorem dX8_refuse_16 : decode cX8_refuse 16 = .ok (.goto 32, 3) := by decide +kernel
theorem dX8_refuse_19 : decode cX8_refuse 19 = .ok (.iload_n 1, 1) := by decide +kernel
theorem dX8_refuse_20 : decode cX8_refuse 20 = .ok (.bipush (-3), 2) := by decide +kernel
theorem dX8_refuse_22 : decode cX8_refuse 22 = .ok (.if_icmp .ne 16, 3) := by decide +kernel
theorem dX8_refuse_25 : decode cX8_refuse 25 = .ok (.aload_n 0, 1) := by decide +kernel
theorem dX8_refuse_26 : decode cX8_refuse 26 = .ok (.dup, 1) := by decide +kernel
theorem dX8_refuse_27 : decode cX8_refuse 27 = .ok (.getfield 315, 3) := by decide +kernel
theorem dX8_refuse_30 : decode cX8_refuse 30 = .ok (.iconst 1, 1) := by decide +kernel
theorem dX8_refuse_31 : decode cX8_refuse 31 = .ok (.iadd, 1) := by decide +kernel
theorem dX8_refuse_32 : decode cX8_refuse 32 = .ok (.putfield 315, 3) := by decide +kernel
theorem dX8_refuse_35 : decode cX8_refuse 35 = .ok (.goto 13, 3) := by decide +kernel
theorem dX8_refuse_38 : decode cX8_refuse 38 = .ok (.aload_n 0, 1) := by decide +kernel
theorem dX8_refuse_39 : decode cX8_refuse 39 = .ok (.dup, 1) := by decide +kernel
theorem dX8_refuse_40 : decode cX8_refuse 40 = .ok (.getfield 318, 3) := by decide +kernel
theorem dX8_refuse_43 : decode cX8_refuse 43 = .ok (.iconst 1, 1) := by decide +kernel
theorem dX8_refuse_44 : decode cX8_refuse 44 = .ok (.iadd, 1) := by decide +kernel
theorem dX8_refuse_45 : decode cX8_refuse 45 = .ok (.putfield 318, 3) := by decide +kernel
theorem dX8_refuse_48 : decode cX8_refuse 48 = .ok (.iload_n 1, 1) := by decide +kernel
theorem dX8_refuse_49 : decode cX8_refuse 49 = .ok (.ireturn, 1) := by decide +kernel
theorem dX8_far_0 : decode cX8_far 0 = .ok (.iload_n 0, 1) := by decide +kernel
theorem dX8_far_1 : decode cX8_far 1 = .ok (.bipush 6, 2) := by decide +kernel
theorem dX8_far_3 : decode cX8_far 3 = .ok (.idiv, 1) := by decide +kernel
theorem dX8_far_4 : decode cX8_far 4 = .ok (.iload_n 1, 1) := by decide +kernel
theorem dX8_far_5 : decode cX8_far 5 = .ok (.bipush 6, 2) := by decide +kernel
theorem dX8_far_7 : decode cX8_far 7 = .ok (.idiv, 1) := by decide +kernel
theorem dX8_far_8 : decode cX8_far 8 = .ok (.isub, 1) := by decide +kernel
theorem dX8_far_9 : decode cX8_far 9 = .ok (.invokestatic 331, 3) := by decide +kernel
theorem dX8_far_12 : decode cX8_far 12 = .ok (.iload_n 0, 1) := by decide +kernel
theorem dX8_far_13 : decode cX8_far 13 = .ok (.bipush 6, 2) := by decide +kernel
theorem dX8_far_15 : decode cX8_far 15 = .ok (.irem, 1) := by decide +kernel
theorem dX8_far_16 : decode cX8_far 16 = .ok (.iload_n 1, 1) := by decide +kernel
theorem dX8_far_17 : decode cX8_far 17 = .ok (.bipush 6, 2) := by decide +kernel
theorem dX8_far_19 : decode cX8_far 19 = .ok (.irem, 1) := by decide +kernel
theorem dX8_far_20 : decode cX8_far 20 = .ok (.isub, 1) := by decide +kernel
theorem dX8_far_21 : decode cX8_far 21 = .ok (.invokestatic 331, 3) := by decide +kernel
theorem dX8_far_24 : decode cX8_far 24 = .ok (.iadd, 1) := by decide +kernel
theorem dX8_far_25 : decode cX8_far 25 = .ok (.ireturn, 1) := by decide +kernel
theorem dX8_planCells_0 : decode cX8_planCells 0 = .ok (.iload_n 0, 1) := by decide +kernel
theorem dX8_planCells_1 : decode cX8_planCells 1 = .ok (.istore_n 1, 1) := by decide +kernel
theorem dX8_planCells_2 : decode cX8_planCells 2 = .ok (.iconst 1, 1) := by decide +kernel
theorem dX8_planCells_3 : decode cX8_planCells 3 = .ok (.istore_n 2, 1) := by decide +kernel
theorem dX8_planCells_4 : decode cX8_planCells 4 = .ok (.iload_n 2, 1) := by decide +kernel
theorem dX8_planCells_5 : decode cX8_planCells 5 = .ok (.iconst 4, 1) := by decide +kernel
theorem dX8_planCells_6 : decode cX8_planCells 6 = .ok (.if_icmp .gt 36, 3) := by decide +kernel
theorem dX8_planCells_9 : decode cX8_planCells 9 = .ok (.iload_n 1, 1) := by decide +kernel
theorem dX8_planCells_10 : decode cX8_planCells 10 = .ok (.bipush 100, 2) := by decide +kernel
theorem dX8_planCells_12 : decode cX8_planCells 12 = .ok (.irem, 1) := by decide +kernel
theorem dX8_planCells_13 : decode cX8_planCells 13 = .ok (.bipush 11, 2) := by decide +kernel
theorem dX8_planCells_15 : decode cX8_planCells 15 = .ok (.bipush 40, 2) := by decide +kernel
theorem dX8_planCells_17 : decode cX8_planCells 17 = .ok (.invokestatic 104, 3) := by decide +kernel
theorem dX8_planCells_20 : decode cX8_planCells 20 = .ok (.ifCond .ne 5, 3) := by decide +kernel
theorem dX8_planCells_23 : decode cX8_planCells 23 = .ok (.iconst 0, 1) := by decide +kernel
theorem dX8_planCells_24 : decode cX8_planCells 24 = .ok (.ireturn, 1) := by decide +kernel
theorem dX8_planCells_25 : decode cX8_planCells 25 = .ok (.iload_n 1, 1) := by decide +kernel
theorem dX8_planCells_26 : decode cX8_planCells 26 = .ok (.bipush 100, 2) := by decide +kernel
theorem dX8_planCells_28 : decode cX8_planCells 28 = .ok (.idiv, 1) := by decide +kernel
theorem dX8_planCells_29 : decode cX8_planCells 29 = .ok (.istore_n 1, 1) := by decide +kernel
theorem dX8_planCells_30 : decode cX8_planCells 30 = .ok (.iload_n 1, 1) := by decide +kernel
theorem dX8_planCells_31 : decode cX8_planCells 31 = .ok (.ifCond .ne 5, 3) := by decide +kernel
theorem dX8_planCells_34 : decode cX8_planCells 34 = .ok (.iload_n 2, 1) := by decide +kernel
theorem dX8_planCells_35 : decode cX8_planCells 35 = .ok (.ireturn, 1) := by decide +kernel
theorem dX8_planCells_36 : decode cX8_planCells 36 = .ok (.iinc 2 1, 3) := by decide +kernel
theorem dX8_planCells_39 : decode cX8_planCells 39 = .ok (.goto (-35), 3) := by decide +kernel
theorem dX8_planCells_42 : decode cX8_planCells 42 = .ok (.iconst 0, 1) := by decide +kernel
theorem dX8_planCells_43 : decode cX8_planCells 43 = .ok (.ireturn, 1) := by decide +kernel
theorem dX8_seesStanding_0 : decode cX8_seesStanding 0 = .ok (.aload_n 0, 1) := by decide +kernel
theorem dX8_seesStanding_1 : decode cX8_seesStanding 1 = .ok (.getfield 10, 3) := by decide +kernel
theorem dX8_seesStanding_4 : decode cX8_seesStanding 4 = .ok (.getfield 60, 3) := by decide +kernel
theorem dX8_seesStanding_7 : decode cX8_seesStanding 7 = .ok (.aload_n 0, 1) := by decide +kernel
theorem dX8_seesStanding_8 : decode cX8_seesStanding 8 = .ok (.getfield 10, 3) := by decide +kernel
theorem dX8_seesStanding_11 : decode cX8_seesStanding 11 = .ok (.getfield 60, 3) := by decide +kernel
theorem dX8_seesStanding_14 : decode cX8_seesStanding 14 = .ok (.invokevirtual 166, 3) := by decide +kernel
theorem dX8_seesStanding_17 : decode cX8_seesStanding 17 = .ok (.iload_n 2, 1) := by decide +kernel
theorem dX8_seesStanding_18 : decode cX8_seesStanding 18 = .ok (.aload_n 0, 1) := by decide +kernel
theorem dX8_seesStanding_19 : decode cX8_seesStanding 19 = .ok (.getfield 10, 3) := by decide +kernel
theorem dX8_seesStanding_22 : decode cX8_seesStanding 22 = .ok (.getfield 60, 3) := by decide +kernel
theorem dX8_seesStanding_25 : decode cX8_seesStanding 25 = .ok (.iconst 0, 1) := by decide +kernel
theorem dX8_seesStanding_26 : decode cX8_seesStanding 26 = .ok (.invokevirtual 160, 3) := by decide +kernel
theorem dX8_seesStanding_29 : decode cX8_seesStanding 29 = .ok (.invokevirtual 176, 3) := by decide +kernel
theorem dX8_seesStanding_32 : decode cX8_seesStanding 32 = .ok (.istore 4, 2) := by decide +kernel
theorem dX8_seesStanding_34 : decode cX8_seesStanding 34 = .ok (.aload_n 0, 1) := by decide +kernel
theorem dX8_seesStanding_35 : decode cX8_seesStanding 35 = .ok (.getfield 10, 3) := by decide +kernel
theorem dX8_seesStanding_38 : decode cX8_seesStanding 38 = .ok (.getfield 60, 3) := by decide +kernel
theorem dX8_seesStanding_41 : decode cX8_seesStanding 41 = .ok (.getfield 173, 3) := by decide +kernel
theorem dX8_seesStanding_44 : decode cX8_seesStanding 44 = .ok (.iload_n 1, 1) := by decide +kernel
theorem dX8_seesStanding_45 : decode cX8_seesStanding 45 = .ok (.iaload, 1) := by decide +kernel
theorem dX8_seesStanding_46 : decode cX8_seesStanding 46 = .ok (.iload_n 2, 1) := by decide +kernel
theorem dX8_seesStanding_47 : decode cX8_seesStanding 47 = .ok (.iload_n 3, 1) := by decide +kernel
theorem dX8_seesStanding_48 : decode cX8_seesStanding 48 = .ok (.invokestatic 336, 3) := by decide +kernel
theorem dX8_seesStanding_51 : decode cX8_seesStanding 51 = .ok (.iload 4, 2) := by decide +kernel
theorem dX8_seesStanding_53 : decode cX8_seesStanding 53 = .ok (.invokestatic 339, 3) := by decide +kernel
theorem dX8_seesStanding_56 : decode cX8_seesStanding 56 = .ok (.ireturn, 1) := by decide +kernel
theorem dX8_cellsSeenFrom_0 : decode cX8_cellsSeenFrom 0 = .ok (.aload_n 0, 1) := by decide +kernel
theorem dX8_cellsSeenFrom_1 : decode cX8_cellsSeenFrom 1 = .ok (.getfield 10, 3) := by decide +kernel
theorem dX8_cellsSeenFrom_4 : decode cX8_cellsSeenFrom 4 = .ok (.getfield 60, 3) := by decide +kernel
theorem dX8_cellsSeenFrom_7 : decode cX8_cellsSeenFrom 7 = .ok (.getfield 173, 3) := by decide +kernel
theorem dX8_cellsSeenFrom_10 : decode cX8_cellsSeenFrom 10 = .ok (.iload_n 1, 1) := by decide +kernel
theorem dX8_cellsSeenFrom_11 : decode cX8_cellsSeenFrom 11 = .ok (.iaload, 1) := by decide +kernel
theorem dX8_cellsSeenFrom_12 : decode cX8_cellsSeenFrom 12 = .ok (.istore_n 3, 1) := by decide +kernel
theorem dX8_cellsSeenFrom_13 : decode cX8_cellsSeenFrom 13 = .ok (.aload_n 0, 1) := by decide +kernel
theorem dX8_cellsSeenFrom_14 : decode cX8_cellsSeenFrom 14 = .ok (.getfield 10, 3) := by decide +kernel
theorem dX8_cellsSeenFrom_17 : decode cX8_cellsSeenFrom 17 = .ok (.getfield 60, 3) := by decide +kernel
theorem dX8_cellsSeenFrom_20 : decode cX8_cellsSeenFrom 20 = .ok (.aload_n 0, 1) := by decide +kernel
theorem dX8_cellsSeenFrom_21 : decode cX8_cellsSeenFrom 21 = .ok (.getfield 10, 3) := by decide +kernel
theorem dX8_cellsSeenFrom_24 : decode cX8_cellsSeenFrom 24 = .ok (.getfield 60, 3) := by decide +kernel
theorem dX8_cellsSeenFrom_27 : decode cX8_cellsSeenFrom 27 = .ok (.invokevirtual 166, 3) := by decide +kernel
theorem dX8_cellsSeenFrom_30 : decode cX8_cellsSeenFrom 30 = .ok (.iload_n 2, 1) := by decide +kernel
theorem dX8_cellsSeenFrom_31 : decode cX8_cellsSeenFrom 31 = .ok (.aload_n 0, 1) := by decide +kernel
theorem dX8_cellsSeenFrom_32 : decode cX8_cellsSeenFrom 32 = .ok (.getfield 10, 3) := by decide +kernel
theorem dX8_cellsSeenFrom_35 : decode cX8_cellsSeenFrom 35 = .ok (.getfield 60, 3) := by decide +kernel
theorem dX8_cellsSeenFrom_38 : decode cX8_cellsSeenFrom 38 = .ok (.iconst 0, 1) := by decide +kernel
theorem dX8_cellsSeenFrom_39 : decode cX8_cellsSeenFrom 39 = .ok (.invokevirtual 160, 3) := by decide +kernel
theorem dX8_cellsSeenFrom_42 : decode cX8_cellsSeenFrom 42 = .ok (.invokevirtual 176, 3) := by decide +kernel
theorem dX8_cellsSeenFrom_45 : decode cX8_cellsSeenFrom 45 = .ok (.istore 4, 2) := by decide +kernel
theorem dX8_cellsSeenFrom_47 : decode cX8_cellsSeenFrom 47 = .ok (.iconst 0, 1) := by decide +kernel
theorem dX8_cellsSeenFrom_48 : decode cX8_cellsSeenFrom 48 = .ok (.istore 5, 2) := by decide +kernel
theorem dX8_cellsSeenFrom_50 : decode cX8_cellsSeenFrom 50 = .ok (.iconst 0, 1) := by decide +kernel
theorem dX8_cellsSeenFrom_51 : decode cX8_cellsSeenFrom 51 = .ok (.istore 6, 2) := by decide +kernel
theorem dX8_cellsSeenFrom_53 : decode cX8_cellsSeenFrom 53 = .ok (.iload 6, 2) := by decide +kernel
theorem dX8_cellsSeenFrom_55 : decode cX8_cellsSeenFrom 55 = .ok (.bipush 30, 2) := by decide +kernel
theorem dX8_cellsSeenFrom_57 : decode cX8_cellsSeenFrom 57 = .ok (.if_icmp .ge 27, 3) := by decide +kernel
theorem dX8_cellsSeenFrom_60 : decode cX8_cellsSeenFrom 60 = .ok (.iload_n 3, 1) := by decide +kernel
theorem dX8_cellsSeenFrom_61 : decode cX8_cellsSeenFrom 61 = .ok (.iload_n 2, 1) := by decide +kernel
theorem dX8_cellsSeenFrom_62 : decode cX8_cellsSeenFrom 62 = .ok (.iload 6, 2) := by decide +kernel
theorem dX8_cellsSeenFrom_64 : decode cX8_cellsSeenFrom 64 = .ok (.invokestatic 336, 3) := by decide +kernel
theorem dX8_cellsSeenFrom_67 : decode cX8_cellsSeenFrom 67 = .ok (.iload 4, 2) := by decide +kernel
theorem dX8_cellsSeenFrom_69 : decode cX8_cellsSeenFrom 69 = .ok (.invokestatic 339, 3) := by decide +kernel
theorem dX8_cellsSeenFrom_72 : decode cX8_cellsSeenFrom 72 = .ok (.ifCond .eq 6, 3) := by decide +kernel
theorem dX8_cellsSeenFrom_75 : decode cX8_cellsSeenFrom 75 = .ok (.iinc 5 1, 3) := by decide +kernel
theorem dX8_cellsSeenFrom_78 : decode cX8_cellsSeenFrom 78 = .ok (.iinc 6 1, 3) := by decide +kernel
theorem dX8_cellsSeenFrom_81 : decode cX8_cellsSeenFrom 81 = .ok (.goto (-28), 3) := by decide +kernel
theorem dX8_cellsSeenFrom_84 : decode cX8_cellsSeenFrom 84 = .ok (.iload 5, 2) := by decide +kernel
theorem dX8_cellsSeenFrom_86 : decode cX8_cellsSeenFrom 86 = .ok (.ireturn, 1) := by decide +kernel
theorem dX8_showKindsLeft_0 : decode cX8_showKindsLeft 0 = .ok (.aload_n 0, 1) := by decide +kernel
theorem dX8_showKindsLeft_1 : decode cX8_showKindsLeft 1 = .ok (.getfield 10, 3) := by decide +kernel
theorem dX8_showKindsLeft_4 : decode cX8_showKindsLeft 4 = .ok (.getfield 253, 3) := by decide +kernel
theorem dX8_showKindsLeft_7 : decode cX8_showKindsLeft 7 = .ok (.astore_n 2, 1) := by decide +kernel
theorem dX8_showKindsLeft_8 : decode cX8_showKindsLeft 8 = .ok (.bipush 63, 2) := by decide +kernel
theorem dX8_showKindsLeft_10 : decode cX8_showKindsLeft 10 = .ok (.istore_n 3, 1) := by decide +kernel
theorem dX8_showKindsLeft_11 : decode cX8_showKindsLeft 11 = .ok (.iconst 0, 1) := by decide +kernel
theorem dX8_showKindsLeft_12 : decode cX8_showKindsLeft 12 = .ok (.istore 4, 2) := by decide +kernel
theorem dX8_showKindsLeft_14 : decode cX8_showKindsLeft 14 = .ok (.iload 4, 2) := by decide +kernel
theorem dX8_showKindsLeft_16 : decode cX8_showKindsLeft 16 = .ok (.aload_n 2, 1) := by decide +kernel
theorem dX8_showKindsLeft_17 : decode cX8_showKindsLeft 17 = .ok (.getfield 236, 3) := by decide +kernel
theorem dX8_showKindsLeft_20 : decode cX8_showKindsLeft 20 = .ok (.if_icmp .ge 85, 3) := by decide +kernel
theorem dX8_showKindsLeft_23 : decode cX8_showKindsLeft 23 = .ok (.iconst 0, 1) := by decide +kernel
theorem dX8_showKindsLeft_24 : decode cX8_showKindsLeft 24 = .ok (.istore 5, 2) := by decide +kernel
theorem dX8_showKindsLeft_26 : decode cX8_showKindsLeft 26 = .ok (.aload_n 2, 1) := by decide +kernel
theorem dX8_showKindsLeft_27 : decode cX8_showKindsLeft 27 = .ok (.iload 4, 2) := by decide +kernel
theorem dX8_showKindsLeft_29 : decode cX8_showKindsLeft 29 = .ok (.iconst 0, 1) := by decide +kernel
theorem dX8_showKindsLeft_30 : decode cX8_showKindsLeft 30 = .ok (.invokevirtual 244, 3) := by decide +kernel
theorem dX8_showKindsLeft_33 : decode cX8_showKindsLeft 33 = .ok (.iload_n 1, 1) := by decide +kernel
theorem dX8_showKindsLeft_34 : decode cX8_showKindsLeft 34 = .ok (.if_icmp .ne 65, 3) := by decide +kernel
theorem dX8_showKindsLeft_37 : decode cX8_showKindsLeft 37 = .ok (.iload 5, 2) := by decide +kernel
theorem dX8_showKindsLeft_39 : decode cX8_showKindsLeft 39 = .ok (.bipush 6, 2) := by decide +kernel
theorem dX8_showKindsLeft_41 : decode cX8_showKindsLeft 41 = .ok (.if_icmp .ge 58, 3) := by decide +kernel
theorem dX8_showKindsLeft_44 : decode cX8_showKindsLeft 44 = .ok (.iload 5, 2) := by decide +kernel
theorem dX8_showKindsLeft_46 : decode cX8_showKindsLeft 46 = .ok (.aload_n 2, 1) := by decide +kernel
theorem dX8_showKindsLeft_47 : decode cX8_showKindsLeft 47 = .ok (.iload 4, 2) := by decide +kernel
theorem dX8_showKindsLeft_49 : decode cX8_showKindsLeft 49 = .ok (.iconst 1, 1) := by decide +kernel
theorem dX8_showKindsLeft_50 : decode cX8_showKindsLeft 50 = .ok (.invokevirtual 244, 3) := by decide +kernel
theorem dX8_showKindsLeft_53 : decode cX8_showKindsLeft 53 = .ok (.aload_n 2, 1) := by decide +kernel
theorem dX8_showKindsLeft_54 : decode cX8_showKindsLeft 54 = .ok (.iload 4, 2) := by decide +kernel
theorem dX8_showKindsLeft_56 : decode cX8_showKindsLeft 56 = .ok (.iconst 2, 1) := by decide +kernel
theorem dX8_showKindsLeft_57 : decode cX8_showKindsLeft 57 = .ok (.invokevirtual 244, 3) := by decide +kernel
theorem dX8_showKindsLeft_60 : decode cX8_showKindsLeft 60 = .ok (.aload_n 2, 1) := by decide +kernel
theorem dX8_showKindsLeft_61 : decode cX8_showKindsLeft 61 = .ok (.iload 4, 2) := by decide +kernel
theorem dX8_showKindsLeft_63 : decode cX8_showKindsLeft 63 = .ok (.iconst 3, 1) := by decide +kernel
theorem dX8_showKindsLeft_64 : decode cX8_showKindsLeft 64 = .ok (.invokevirtual 244, 3) := by decide +kernel
theorem dX8_showKindsLeft_67 : decode cX8_showKindsLeft 67 = .ok (.invokestatic 342, 3) := by decide +kernel
theorem dX8_showKindsLeft_70 : decode cX8_showKindsLeft 70 = .ok (.istore 6, 2) := by decide +kernel
theorem dX8_showKindsLeft_72 : decode cX8_showKindsLeft 72 = .ok (.iload 6, 2) := by decide +kernel
theorem dX8_showKindsLeft_74 : decode cX8_showKindsLeft 74 = .ok (.aload_n 2, 1) := by decide +kernel
theorem dX8_showKindsLeft_75 : decode cX8_showKindsLeft 75 = .ok (.iload 4, 2) := by decide +kernel
theorem dX8_showKindsLeft_77 : decode cX8_showKindsLeft 77 = .ok (.iconst 4, 1) := by decide +kernel
theorem dX8_showKindsLeft_78 : decode cX8_showKindsLeft 78 = .ok (.invokevirtual 244, 3) := by decide +kernel
theorem dX8_showKindsLeft_81 : decode cX8_showKindsLeft 81 = .ok (.if_icmp .eq 12, 3) := by decide +kernel
theorem dX8_showKindsLeft_84 : decode cX8_showKindsLeft 84 = .ok (.iload_n 3, 1) := by decide +kernel
theorem dX8_showKindsLeft_85 : decode cX8_showKindsLeft 85 = .ok (.iconst 1, 1) := by decide +kernel
theorem dX8_showKindsLeft_86 : decode cX8_showKindsLeft 86 = .ok (.iload 5, 2) := by decide +kernel
theorem dX8_showKindsLeft_88 : decode cX8_showKindsLeft 88 = .ok (.ishl, 1) := by decide +kernel
theorem dX8_showKindsLeft_89 : decode cX8_showKindsLeft 89 = .ok (.iconst (-1), 1) := by decide +kernel
theorem dX8_showKindsLeft_90 : decode cX8_showKindsLeft 90 = .ok (.ixor, 1) := by decide +kernel
theorem dX8_showKindsLeft_91 : decode cX8_showKindsLeft 91 = .ok (.iand, 1) := by decide +kernel
theorem dX8_showKindsLeft_92 : decode cX8_showKindsLeft 92 = .ok (.istore_n 3, 1) := by decide +kernel
theorem dX8_showKindsLeft_93 : decode cX8_showKindsLeft 93 = .ok (.iinc 5 1, 3) := by decide +kernel
theorem dX8_showKindsLeft_96 : decode cX8_showKindsLeft 96 = .ok (.goto (-70), 3) := by decide +kernel
theorem dX8_showKindsLeft_99 : decode cX8_showKindsLeft 99 = .ok (.iinc 4 1, 3) := by decide +kernel
theorem dX8_showKindsLeft_102 : decode cX8_showKindsLeft 102 = .ok (.goto (-88), 3) := by decide +kernel
theorem dX8_showKindsLeft_105 : decode cX8_showKindsLeft 105 = .ok (.iload_n 3, 1) := by decide +kernel
theorem dX8_showKindsLeft_106 : decode cX8_showKindsLeft 106 = .ok (.ireturn, 1) := by decide +kernel
theorem dX8_watcherKindsLeft_0 : decode cX8_watcherKindsLeft 0 = .ok (.aload_n 0, 1) := by decide +kernel
theorem dX8_watcherKindsLeft_1 : decode cX8_watcherKindsLeft 1 = .ok (.getfield 10, 3) := by decide +kernel
theorem dX8_watcherKindsLeft_4 : decode cX8_watcherKindsLeft 4 = .ok (.getfield 256, 3) := by decide +kernel
theorem dX8_watcherKindsLeft_7 : decode cX8_watcherKindsLeft 7 = .ok (.astore_n 2, 1) := by decide +kernel
theorem dX8_watcherKindsLeft_8 : decode cX8_watcherKindsLeft 8 = .ok (.bipush 63, 2) := by decide +kernel
theorem dX8_watcherKindsLeft_10 : decode cX8_watcherKindsLeft 10 = .ok (.istore_n 3, 1) := by decide +kernel
theorem dX8_watcherKindsLeft_11 : decode cX8_watcherKindsLeft 11 = .ok (.iconst 0, 1) := by decide +kernel
theorem dX8_watcherKindsLeft_12 : decode cX8_watcherKindsLeft 12 = .ok (.istore 4, 2) := by decide +kernel
theorem dX8_watcherKindsLeft_14 : decode cX8_watcherKindsLeft 14 = .ok (.iload 4, 2) := by decide +kernel
theorem dX8_watcherKindsLeft_16 : decode cX8_watcherKindsLeft 16 = .ok (.aload_n 2, 1) := by decide +kernel
theorem dX8_watcherKindsLeft_17 : decode cX8_watcherKindsLeft 17 = .ok (.getfield 236, 3) := by decide +kernel
theorem dX8_watcherKindsLeft_20 : decode cX8_watcherKindsLeft 20 = .ok (.if_icmp .ge 87, 3) := by decide +kernel
theorem dX8_watcherKindsLeft_23 : decode cX8_watcherKindsLeft 23 = .ok (.iconst 0, 1) := by decide +kernel
theorem dX8_watcherKindsLeft_24 : decode cX8_watcherKindsLeft 24 = .ok (.istore 5, 2) := by decide +kernel
theorem dX8_watcherKindsLeft_26 : decode cX8_watcherKindsLeft 26 = .ok (.aload_n 2, 1) := by decide +kernel
theorem dX8_watcherKindsLeft_27 : decode cX8_watcherKindsLeft 27 = .ok (.iload 4, 2) := by decide +kernel
theorem dX8_watcherKindsLeft_29 : decode cX8_watcherKindsLeft 29 = .ok (.iconst 0, 1) := by decide +kernel
theorem dX8_watcherKindsLeft_30 : decode cX8_watcherKindsLeft 30 = .ok (.invokevirtual 244, 3) := by decide +kernel
theorem dX8_watcherKindsLeft_33 : decode cX8_watcherKindsLeft 33 = .ok (.iload_n 1, 1) := by decide +kernel
theorem dX8_watcherKindsLeft_34 : decode cX8_watcherKindsLeft 34 = .ok (.if_icmp .ne 67, 3) := by decide +kernel
theorem dX8_watcherKindsLeft_37 : decode cX8_watcherKindsLeft 37 = .ok (.iload 5, 2) := by decide +kernel
theorem dX8_watcherKindsLeft_39 : decode cX8_watcherKindsLeft 39 = .ok (.bipush 6, 2) := by decide +kernel
theorem dX8_watcherKindsLeft_41 : decode cX8_watcherKindsLeft 41 = .ok (.if_icmp .ge 60, 3) := by decide +kernel
theorem dX8_watcherKindsLeft_44 : decode cX8_watcherKindsLeft 44 = .ok (.iload 5, 2) := by decide +kernel
theorem dX8_watcherKindsLeft_46 : decode cX8_watcherKindsLeft 46 = .ok (.aload_n 2, 1) := by decide +kernel
theorem dX8_watcherKindsLeft_47 : decode cX8_watcherKindsLeft 47 = .ok (.iload 4, 2) := by decide +kernel
theorem dX8_watcherKindsLeft_49 : decode cX8_watcherKindsLeft 49 = .ok (.iconst 1, 1) := by decide +kernel
theorem dX8_watcherKindsLeft_50 : decode cX8_watcherKindsLeft 50 = .ok (.invokevirtual 244, 3) := by decide +kernel
theorem dX8_watcherKindsLeft_53 : decode cX8_watcherKindsLeft 53 = .ok (.aload_n 2, 1) := by decide +kernel
theorem dX8_watcherKindsLeft_54 : decode cX8_watcherKindsLeft 54 = .ok (.iload 4, 2) := by decide +kernel
theorem dX8_watcherKindsLeft_56 : decode cX8_watcherKindsLeft 56 = .ok (.iconst 2, 1) := by decide +kernel
theorem dX8_watcherKindsLeft_57 : decode cX8_watcherKindsLeft 57 = .ok (.invokevirtual 244, 3) := by decide +kernel
theorem dX8_watcherKindsLeft_60 : decode cX8_watcherKindsLeft 60 = .ok (.invokestatic 339, 3) := by decide +kernel
theorem dX8_watcherKindsLeft_63 : decode cX8_watcherKindsLeft 63 = .ok (.istore 6, 2) := by decide +kernel
theorem dX8_watcherKindsLeft_65 : decode cX8_watcherKindsLeft 65 = .ok (.iload 6, 2) := by decide +kernel
theorem dX8_watcherKindsLeft_67 : decode cX8_watcherKindsLeft 67 = .ok (.aload_n 2, 1) := by decide +kernel
theorem dX8_watcherKindsLeft_68 : decode cX8_watcherKindsLeft 68 = .ok (.iload 4, 2) := by decide +kernel
theorem dX8_watcherKindsLeft_70 : decode cX8_watcherKindsLeft 70 = .ok (.iconst 3, 1) := by decide +kernel
theorem dX8_watcherKindsLeft_71 : decode cX8_watcherKindsLeft 71 = .ok (.invokevirtual 244, 3) := by decide +kernel
theorem dX8_watcherKindsLeft_74 : decode cX8_watcherKindsLeft 74 = .ok (.iconst 1, 1) := by decide +kernel
theorem dX8_watcherKindsLeft_75 : decode cX8_watcherKindsLeft 75 = .ok (.if_icmp .ne 7, 3) := by decide +kernel
theorem dX8_watcherKindsLeft_78 : decode cX8_watcherKindsLeft 78 = .ok (.iconst 1, 1) := by decide +kernel
theorem dX8_watcherKindsLeft_79 : decode cX8_watcherKindsLeft 79 = .ok (.goto 4, 3) := by decide +kernel
theorem dX8_watcherKindsLeft_82 : decode cX8_watcherKindsLeft 82 = .ok (.iconst 0, 1) := by decide +kernel
theorem dX8_watcherKindsLeft_83 : decode cX8_watcherKindsLeft 83 = .ok (.if_icmp .eq 12, 3) := by decide +kernel
theorem dX8_watcherKindsLeft_86 : decode cX8_watcherKindsLeft 86 = .ok (.iload_n 3, 1) := by decide +kernel
theorem dX8_watcherKindsLeft_87 : decode cX8_watcherKindsLeft 87 = .ok (.iconst 1, 1) := by decide +kernel
theorem dX8_watcherKindsLeft_88 : decode cX8_watcherKindsLeft 88 = .ok (.iload 5, 2) := by decide +kernel
theorem dX8_watcherKindsLeft_90 : decode cX8_watcherKindsLeft 90 = .ok (.ishl, 1) := by decide +kernel
theorem dX8_watcherKindsLeft_91 : decode cX8_watcherKindsLeft 91 = .ok (.iconst (-1), 1) := by decide +kernel
theorem dX8_watcherKindsLeft_92 : decode cX8_watcherKindsLeft 92 = .ok (.ixor, 1) := by decide +kernel
theorem dX8_watcherKindsLeft_93 : decode cX8_watcherKindsLeft 93 = .ok (.iand, 1) := by decide +kernel
theorem dX8_watcherKindsLeft_94 : decode cX8_watcherKindsLeft 94 = .ok (.istore_n 3, 1) := by decide +kernel
theorem dX8_watcherKindsLeft_95 : decode cX8_watcherKindsLeft 95 = .ok (.iinc 5 1, 3) := by decide +kernel
theorem dX8_watcherKindsLeft_98 : decode cX8_watcherKindsLeft 98 = .ok (.goto (-72), 3) := by decide +kernel
theorem dX8_watcherKindsLeft_101 : decode cX8_watcherKindsLeft 101 = .ok (.iinc 4 1, 3) := by decide +kernel
theorem dX8_watcherKindsLeft_104 : decode cX8_watcherKindsLeft 104 = .ok (.goto (-90), 3) := by decide +kernel
theorem dX8_watcherKindsLeft_107 : decode cX8_watcherKindsLeft 107 = .ok (.iload_n 3, 1) := by decide +kernel
theorem dX8_watcherKindsLeft_108 : decode cX8_watcherKindsLeft 108 = .ok (.ireturn, 1) := by decide +kernel
theorem dX8_mostAlike_0 : decode cX8_mostAlike 0 = .ok (.iconst 0, 1) := by decide +kernel
theorem dX8_mostAlike_1 : decode cX8_mostAlike 1 = .ok (.istore 5, 2) := by decide +kernel
theorem dX8_mostAlike_3 : decode cX8_mostAlike 3 = .ok (.iload 5, 2) := by decide +kernel
theorem dX8_mostAlike_5 : decode cX8_mostAlike 5 = .ok (.bipush 6, 2) := by decide +kernel
theorem dX8_mostAlike_7 : decode cX8_mostAlike 7 = .ok (.if_icmp .ge 25, 3) := by decide +kernel
theorem dX8_mostAlike_10 : decode cX8_mostAlike 10 = .ok (.aload_n 0, 1) := by decide +kernel
theorem dX8_mostAlike_11 : decode cX8_mostAlike 11 = .ok (.getfield 52, 3) := by decide +kernel
theorem dX8_mostAlike_14 : decode cX8_mostAlike 14 = .ok (.iload 5, 2) := by decide +kernel
theorem dX8_mostAlike_16 : decode cX8_mostAlike 16 = .ok (.iload 5, 2) := by decide +kernel
theorem dX8_mostAlike_18 : decode cX8_mostAlike 18 = .ok (.iload_n 2, 1) := by decide +kernel
theorem dX8_mostAlike_19 : decode cX8_mostAlike 19 = .ok (.iload_n 3, 1) := by decide +kernel
theorem dX8_mostAlike_20 : decode cX8_mostAlike 20 = .ok (.iload 4, 2) := by decide +kernel
theorem dX8_mostAlike_22 : decode cX8_mostAlike 22 = .ok (.invokestatic 342, 3) := by decide +kernel
theorem dX8_mostAlike_25 : decode cX8_mostAlike 25 = .ok (.iastore, 1) := by decide +kernel
theorem dX8_mostAlike_26 : decode cX8_mostAlike 26 = .ok (.iinc 5 1, 3) := by decide +kernel
theorem dX8_mostAlike_29 : decode cX8_mostAlike 29 = .ok (.goto (-26), 3) := by decide +kernel
theorem dX8_mostAlike_32 : decode cX8_mostAlike 32 = .ok (.iconst 0, 1) := by decide +kernel
theorem dX8_mostAlike_33 : decode cX8_mostAlike 33 = .ok (.istore 5, 2) := by decide +kernel
theorem dX8_mostAlike_35 : decode cX8_mostAlike 35 = .ok (.iconst 0, 1) := by decide +kernel
theorem dX8_mostAlike_36 : decode cX8_mostAlike 36 = .ok (.istore 6, 2) := by decide +kernel
theorem dX8_mostAlike_38 : decode cX8_mostAlike 38 = .ok (.iload 6, 2) := by decide +kernel
theorem dX8_mostAlike_40 : decode cX8_mostAlike 40 = .ok (.bipush 6, 2) := by decide +kernel
theorem dX8_mostAlike_42 : decode cX8_mostAlike 42 = .ok (.if_icmp .ge 72, 3) := by decide +kernel
theorem dX8_mostAlike_45 : decode cX8_mostAlike 45 = .ok (.iconst 0, 1) := by decide +kernel
theorem dX8_mostAlike_46 : decode cX8_mostAlike 46 = .ok (.istore 7, 2) := by decide +kernel
theorem dX8_mostAlike_48 : decode cX8_mostAlike 48 = .ok (.iconst 0, 1) := by decide +kernel
theorem dX8_mostAlike_49 : decode cX8_mostAlike 49 = .ok (.istore 8, 2) := by decide +kernel
theorem dX8_mostAlike_51 : decode cX8_mostAlike 51 = .ok (.iload 8, 2) := by decide +kernel
theorem dX8_mostAlike_53 : decode cX8_mostAlike 53 = .ok (.bipush 6, 2) := by decide +kernel
theorem dX8_mostAlike_55 : decode cX8_mostAlike 55 = .ok (.if_icmp .ge 44, 3) := by decide +kernel
theorem dX8_mostAlike_58 : decode cX8_mostAlike 58 = .ok (.iload_n 1, 1) := by decide +kernel
theorem dX8_mostAlike_59 : decode cX8_mostAlike 59 = .ok (.iload 6, 2) := by decide +kernel
theorem dX8_mostAlike_61 : decode cX8_mostAlike 61 = .ok (.ishr, 1) := by decide +kernel
theorem dX8_mostAlike_62 : decode cX8_mostAlike 62 = .ok (.iload_n 1, 1) := by decide +kernel
theorem dX8_mostAlike_63 : decode cX8_mostAlike 63 = .ok (.iload 8, 2) := by decide +kernel
theorem dX8_mostAlike_65 : decode cX8_mostAlike 65 = .ok (.ishr, 1) := by decide +kernel
theorem dX8_mostAlike_66 : decode cX8_mostAlike 66 = .ok (.iand, 1) := by decide +kernel
theorem dX8_mostAlike_67 : decode cX8_mostAlike 67 = .ok (.iconst 1, 1) := by decide +kernel
theorem dX8_mostAlike_68 : decode cX8_mostAlike 68 = .ok (.iand, 1) := by decide +kernel
theorem dX8_mostAlike_69 : decode cX8_mostAlike 69 = .ok (.iconst 1, 1) := by decide +kernel
theorem dX8_mostAlike_70 : decode cX8_mostAlike 70 = .ok (.if_icmp .ne 23, 3) := by decide +kernel
theorem dX8_mostAlike_73 : decode cX8_mostAlike 73 = .ok (.aload_n 0, 1) := by decide +kernel
theorem dX8_mostAlike_74 : decode cX8_mostAlike 74 = .ok (.getfield 52, 3) := by decide +kernel
theorem dX8_mostAlike_77 : decode cX8_mostAlike 77 = .ok (.iload 6, 2) := by decide +kernel
theorem dX8_mostAlike_79 : decode cX8_mostAlike 79 = .ok (.iaload, 1) := by decide +kernel
theorem dX8_mostAlike_80 : decode cX8_mostAlike 80 = .ok (.aload_n 0, 1) := by decide +kernel
theorem dX8_mostAlike_81 : decode cX8_mostAlike 81 = .ok (.getfield 52, 3) := by decide +kernel
theorem dX8_mostAlike_84 : decode cX8_mostAlike 84 = .ok (.iload 8, 2) := by decide +kernel
theorem dX8_mostAlike_86 : decode cX8_mostAlike 86 = .ok (.iaload, 1) := by decide +kernel
theorem dX8_mostAlike_87 : decode cX8_mostAlike 87 = .ok (.if_icmp .ne 6, 3) := by decide +kernel
theorem dX8_mostAlike_90 : decode cX8_mostAlike 90 = .ok (.iinc 7 1, 3) := by decide +kernel
theorem dX8_mostAlike_93 : decode cX8_mostAlike 93 = .ok (.iinc 8 1, 3) := by decide +kernel
theorem dX8_mostAlike_96 : decode cX8_mostAlike 96 = .ok (.goto (-45), 3) := by decide +kernel
theorem dX8_mostAlike_99 : decode cX8_mostAlike 99 = .ok (.iload 5, 2) := by decide +kernel
theorem dX8_mostAlike_101 : decode cX8_mostAlike 101 = .ok (.iload 7, 2) := by decide +kernel
theorem dX8_mostAlike_103 : decode cX8_mostAlike 103 = .ok (.invokestatic 345, 3) := by decide +kernel
theorem dX8_mostAlike_106 : decode cX8_mostAlike 106 = .ok (.istore 5, 2) := by decide +kernel
theorem dX8_mostAlike_108 : decode cX8_mostAlike 108 = .ok (.iinc 6 1, 3) := by decide +kernel
theorem dX8_mostAlike_111 : decode cX8_mostAlike 111 = .ok (.goto (-73), 3) := by decide +kernel
theorem dX8_mostAlike_114 : decode cX8_mostAlike 114 = .ok (.iload 5, 2) := by decide +kernel
theorem dX8_mostAlike_116 : decode cX8_mostAlike 116 = .ok (.ireturn, 1) := by decide +kernel
theorem dX8_greaterPart_0 : decode cX8_greaterPart 0 = .ok (.iconst 0, 1) := by decide +kernel
theorem dX8_greaterPart_1 : decode cX8_greaterPart 1 = .ok (.istore_n 3, 1) := by decide +kernel
theorem dX8_greaterPart_2 : decode cX8_greaterPart 2 = .ok (.iconst 0, 1) := by decide +kernel
theorem dX8_greaterPart_3 : decode cX8_greaterPart 3 = .ok (.istore 4, 2) := by decide +kernel
theorem dX8_greaterPart_5 : decode cX8_greaterPart 5 = .ok (.iload 4, 2) := by decide +kernel
theorem dX8_greaterPart_7 : decode cX8_greaterPart 7 = .ok (.bipush 6, 2) := by decide +kernel
theorem dX8_greaterPart_9 : decode cX8_greaterPart 9 = .ok (.if_icmp .ge 32, 3) := by decide +kernel
theorem dX8_greaterPart_12 : decode cX8_greaterPart 12 = .ok (.iload_n 0, 1) := by decide +kernel
theorem dX8_greaterPart_13 : decode cX8_greaterPart 13 = .ok (.iload 4, 2) := by decide +kernel
theorem dX8_greaterPart_15 : decode cX8_greaterPart 15 = .ok (.ishr, 1) := by decide +kernel
theorem dX8_greaterPart_16 : decode cX8_greaterPart 16 = .ok (.iconst 1, 1) := by decide +kernel
theorem dX8_greaterPart_17 : decode cX8_greaterPart 17 = .ok (.iand, 1) := by decide +kernel
theorem dX8_greaterPart_18 : decode cX8_greaterPart 18 = .ok (.iconst 1, 1) := by decide +kernel
theorem dX8_greaterPart_19 : decode cX8_greaterPart 19 = .ok (.if_icmp .ne 16, 3) := by decide +kernel
theorem dX8_greaterPart_22 : decode cX8_greaterPart 22 = .ok (.iload 4, 2) := by decide +kernel
theorem dX8_greaterPart_24 : decode cX8_greaterPart 24 = .ok (.iload_n 1, 1) := by decide +kernel
theorem dX8_greaterPart_25 : decode cX8_greaterPart 25 = .ok (.iload_n 2, 1) := by decide +kernel
theorem dX8_greaterPart_26 : decode cX8_greaterPart 26 = .ok (.invokestatic 339, 3) := by decide +kernel
theorem dX8_greaterPart_29 : decode cX8_greaterPart 29 = .ok (.ifCond .eq 6, 3) := by decide +kernel
theorem dX8_greaterPart_32 : decode cX8_greaterPart 32 = .ok (.iinc 3 1, 3) := by decide +kernel
theorem dX8_greaterPart_35 : decode cX8_greaterPart 35 = .ok (.iinc 4 1, 3) := by decide +kernel
theorem dX8_greaterPart_38 : decode cX8_greaterPart 38 = .ok (.goto (-33), 3) := by decide +kernel
theorem dX8_greaterPart_41 : decode cX8_greaterPart 41 = .ok (.iload_n 3, 1) := by decide +kernel
theorem dX8_greaterPart_42 : decode cX8_greaterPart 42 = .ok (.iload_n 0, 1) := by decide +kernel
theorem dX8_greaterPart_43 : decode cX8_greaterPart 43 = .ok (.invokestatic 206, 3) := by decide +kernel
theorem dX8_greaterPart_46 : decode cX8_greaterPart 46 = .ok (.iload_n 3, 1) := by decide +kernel
theorem dX8_greaterPart_47 : decode cX8_greaterPart 47 = .ok (.isub, 1) := by decide +kernel
theorem dX8_greaterPart_48 : decode cX8_greaterPart 48 = .ok (.invokestatic 345, 3) := by decide +kernel
theorem dX8_greaterPart_51 : decode cX8_greaterPart 51 = .ok (.ireturn, 1) := by decide +kernel
theorem dX8_power_0 : decode cX8_power 0 = .ok (.lconst 1, 1) := by decide +kernel
theorem dX8_power_1 : decode cX8_power 1 = .ok (.lstore_n 3, 1) := by decide +kernel
theorem dX8_power_2 : decode cX8_power 2 = .ok (.iconst 0, 1) := by decide +kernel
theorem dX8_power_3 : decode cX8_power 3 = .ok (.istore 5, 2) := by decide +kernel
theorem dX8_power_5 : decode cX8_power 5 = .ok (.iload 5, 2) := by decide +kernel
theorem dX8_power_7 : decode cX8_power 7 = .ok (.iload_n 2, 1) := by decide +kernel
theorem dX8_power_8 : decode cX8_power 8 = .ok (.if_icmp .ge 13, 3) := by decide +kernel
theorem dX8_power_11 : decode cX8_power 11 = .ok (.lload_n 3, 1) := by decide +kernel
theorem dX8_power_12 : decode cX8_power 12 = .ok (.lload_n 0, 1) := by decide +kernel
theorem dX8_power_13 : decode cX8_power 13 = .ok (.lmul, 1) := by decide +kernel
theorem dX8_power_14 : decode cX8_power 14 = .ok (.lstore_n 3, 1) := by decide +kernel
theorem dX8_power_15 : decode cX8_power 15 = .ok (.iinc 5 1, 3) := by decide +kernel
theorem dX8_power_18 : decode cX8_power 18 = .ok (.goto (-13), 3) := by decide +kernel
theorem dX8_power_21 : decode cX8_power 21 = .ok (.lload_n 3, 1) := by decide +kernel
theorem dX8_power_22 : decode cX8_power 22 = .ok (.lreturn, 1) := by decide +kernel
theorem dX8_oddsOf_0 : decode cX8_oddsOf 0 = .ok (.iload_n 1, 1) := by decide +kernel
theorem dX8_oddsOf_1 : decode cX8_oddsOf 1 = .ok (.invokestatic 206, 3) := by decide +kernel
theorem dX8_oddsOf_4 : decode cX8_oddsOf 4 = .ok (.istore_n 3, 1) := by decide +kernel
theorem dX8_oddsOf_5 : decode cX8_oddsOf 5 = .ok (.bipush 10, 2) := by decide +kernel
theorem dX8_oddsOf_7 : decode cX8_oddsOf 7 = .ok (.iload_n 2, 1) := by decide +kernel
theorem dX8_oddsOf_8 : decode cX8_oddsOf 8 = .ok (.isub, 1) := by decide +kernel
theorem dX8_oddsOf_9 : decode cX8_oddsOf 9 = .ok (.i2l, 1) := by decide +kernel
theorem dX8_oddsOf_10 : decode cX8_oddsOf 10 = .ok (.iload_n 3, 1) := by decide +kernel
theorem dX8_oddsOf_11 : decode cX8_oddsOf 11 = .ok (.invokestatic 284, 3) := by decide +kernel
theorem dX8_oddsOf_14 : decode cX8_oddsOf 14 = .ok (.iload_n 2, 1) := by decide +kernel
theorem dX8_oddsOf_15 : decode cX8_oddsOf 15 = .ok (.i2l, 1) := by decide +kernel
theorem dX8_oddsOf_16 : decode cX8_oddsOf 16 = .ok (.iload_n 0, 1) := by decide +kernel
theorem dX8_oddsOf_17 : decode cX8_oddsOf 17 = .ok (.invokestatic 206, 3) := by decide +kernel
theorem dX8_oddsOf_20 : decode cX8_oddsOf 20 = .ok (.iload_n 3, 1) := by decide +kernel
theorem dX8_oddsOf_21 : decode cX8_oddsOf 21 = .ok (.isub, 1) := by decide +kernel
theorem dX8_oddsOf_22 : decode cX8_oddsOf 22 = .ok (.invokestatic 284, 3) := by decide +kernel
theorem dX8_oddsOf_25 : decode cX8_oddsOf 25 = .ok (.lmul, 1) := by decide +kernel
theorem dX8_oddsOf_26 : decode cX8_oddsOf 26 = .ok (.lreturn, 1) := by decide +kernel
theorem dX8_keepFraction_0 : decode cX8_keepFraction 0 = .ok (.lload_n 1, 1) := by decide +kernel
theorem dX8_keepFraction_1 : decode cX8_keepFraction 1 = .ok (.lstore 5, 2) := by decide +kernel
theorem dX8_keepFraction_3 : decode cX8_keepFraction 3 = .ok (.lload_n 3, 1) := by decide +kernel
theorem dX8_keepFraction_4 : decode cX8_keepFraction 4 = .ok (.lstore 7, 2) := by decide +kernel
theorem dX8_keepFraction_6 : decode cX8_keepFraction 6 = .ok (.iconst 0, 1) := by decide +kernel
theorem dX8_keepFraction_7 : decode cX8_keepFraction 7 = .ok (.istore 9, 2) := by decide +kernel
theorem dX8_keepFraction_9 : decode cX8_keepFraction 9 = .ok (.iload 9, 2) := by decide +kernel
theorem dX8_keepFraction_11 : decode cX8_keepFraction 11 = .ok (.bipush 100, 2) := by decide +kernel
theorem dX8_keepFraction_13 : decode cX8_keepFraction 13 = .ok (.if_icmp .ge 31, 3) := by decide +kernel
theorem dX8_keepFraction_16 : decode cX8_keepFraction 16 = .ok (.lload 5, 2) := by decide +kernel
theorem dX8_keepFraction_18 : decode cX8_keepFraction 18 = .ok (.lconst 0, 1) := by decide +kernel
theorem dX8_keepFraction_19 : decode cX8_keepFraction 19 = .ok (.lcmp, 1) := by decide +kernel
theorem dX8_keepFraction_20 : decode cX8_keepFraction 20 = .ok (.ifCond .eq 24, 3) := by decide +kernel
theorem dX8_keepFraction_23 : decode cX8_keepFraction 23 = .ok (.lload 7, 2) := by decide +kernel
theorem dX8_keepFraction_25 : decode cX8_keepFraction 25 = .ok (.lload 5, 2) := by decide +kernel
theorem dX8_keepFraction_27 : decode cX8_keepFraction 27 = .ok (.lrem, 1) := by decide +kernel
theorem dX8_keepFraction_28 : decode cX8_keepFraction 28 = .ok (.lstore 10, 2) := by decide +kernel
theorem dX8_keepFraction_30 : decode cX8_keepFraction 30 = .ok (.lload 5, 2) := by decide +kernel
theorem dX8_keepFraction_32 : decode cX8_keepFraction 32 = .ok (.lstore 7, 2) := by decide +kernel
theorem dX8_keepFraction_34 : decode cX8_keepFraction 34 = .ok (.lload 10, 2) := by decide +kernel
theorem dX8_keepFraction_36 : decode cX8_keepFraction 36 = .ok (.lstore 5, 2) := by decide +kernel
theorem dX8_keepFraction_38 : decode cX8_keepFraction 38 = .ok (.iinc 9 1, 3) := by decide +kernel
theorem dX8_keepFraction_41 : decode cX8_keepFraction 41 = .ok (.goto (-32), 3) := by decide +kernel
theorem dX8_keepFraction_44 : decode cX8_keepFraction 44 = .ok (.lload 7, 2) := by decide +kernel
theorem dX8_keepFraction_46 : decode cX8_keepFraction 46 = .ok (.lconst 0, 1) := by decide +kernel
theorem dX8_keepFraction_47 : decode cX8_keepFraction 47 = .ok (.lcmp, 1) := by decide +kernel
theorem dX8_keepFraction_48 : decode cX8_keepFraction 48 = .ok (.ifCond .le 19, 3) := by decide +kernel
theorem dX8_keepFraction_51 : decode cX8_keepFraction 51 = .ok (.aload_n 0, 1) := by decide +kernel
theorem dX8_keepFraction_52 : decode cX8_keepFraction 52 = .ok (.lload_n 1, 1) := by decide +kernel
theorem dX8_keepFraction_53 : decode cX8_keepFraction 53 = .ok (.lload 7, 2) := by decide +kernel
theorem dX8_keepFraction_55 : decode cX8_keepFraction 55 = .ok (.ldiv, 1) := by decide +kernel
theorem dX8_keepFraction_56 : decode cX8_keepFraction 56 = .ok (.putfield 303, 3) := by decide +kernel
theorem dX8_keepFraction_59 : decode cX8_keepFraction 59 = .ok (.aload_n 0, 1) := by decide +kernel
theorem dX8_keepFraction_60 : decode cX8_keepFraction 60 = .ok (.lload_n 3, 1) := by decide +kernel
theorem dX8_keepFraction_61 : decode cX8_keepFraction 61 = .ok (.lload 7, 2) := by decide +kernel
theorem dX8_keepFraction_63 : decode cX8_keepFraction 63 = .ok (.ldiv, 1) := by decide +kernel
theorem dX8_keepFraction_64 : decode cX8_keepFraction 64 = .ok (.putfield 56, 3) := by decide +kernel
theorem dX8_keepFraction_67 : decode cX8_keepFraction 67 = .ok (.return_, 1) := by decide +kernel
theorem dX8_tally_0 : decode cX8_tally 0 = .ok (.iload_n 1, 1) := by decide +kernel
theorem dX8_tally_1 : decode cX8_tally 1 = .ok (.tableswitch 168 0 9 #[55, 66, 77, 88, 99, 113, 124, 135, 146, 157], 55) := by decide +kernel
theorem dX8_tally_56 : decode cX8_tally 56 = .ok (.aload_n 0, 1) := by decide +kernel
theorem dX8_tally_57 : decode cX8_tally 57 = .ok (.getfield 10, 3) := by decide +kernel
theorem dX8_tally_60 : decode cX8_tally 60 = .ok (.getfield 60, 3) := by decide +kernel
theorem dX8_tally_63 : decode cX8_tally 63 = .ok (.getfield 84, 3) := by decide +kernel
theorem dX8_tally_66 : decode cX8_tally 66 = .ok (.ireturn, 1) := by decide +kernel
theorem dX8_tally_67 : decode cX8_tally 67 = .ok (.aload_n 0, 1) := by decide +kernel
theorem dX8_tally_68 : decode cX8_tally 68 = .ok (.getfield 10, 3) := by decide +kernel
theorem dX8_tally_71 : decode cX8_tally 71 = .ok (.getfield 60, 3) := by decide +kernel
theorem dX8_tally_74 : decode cX8_tally 74 = .ok (.getfield 63, 3) := by decide +kernel
theorem dX8_tally_77 : decode cX8_tally 77 = .ok (.ireturn, 1) := by decide +kernel
theorem dX8_tally_78 : decode cX8_tally 78 = .ok (.aload_n 0, 1) := by decide +kernel
theorem dX8_tally_79 : decode cX8_tally 79 = .ok (.getfield 10, 3) := by decide +kernel
theorem dX8_tally_82 : decode cX8_tally 82 = .ok (.getfield 60, 3) := by decide +kernel
theorem dX8_tally_85 : decode cX8_tally 85 = .ok (.getfield 133, 3) := by decide +kernel
theorem dX8_tally_88 : decode cX8_tally 88 = .ok (.ireturn, 1) := by decide +kernel
theorem dX8_tally_89 : decode cX8_tally 89 = .ok (.aload_n 0, 1) := by decide +kernel
theorem dX8_tally_90 : decode cX8_tally 90 = .ok (.getfield 10, 3) := by decide +kernel
theorem dX8_tally_93 : decode cX8_tally 93 = .ok (.getfield 60, 3) := by decide +kernel
theorem dX8_tally_96 : decode cX8_tally 96 = .ok (.getfield 348, 3) := by decide +kernel
theorem dX8_tally_99 : decode cX8_tally 99 = .ok (.ireturn, 1) := by decide +kernel
theorem dX8_tally_100 : decode cX8_tally 100 = .ok (.aload_n 0, 1) := by decide +kernel
theorem dX8_tally_101 : decode cX8_tally 101 = .ok (.getfield 10, 3) := by decide +kernel
theorem dX8_tally_104 : decode cX8_tally 104 = .ok (.getfield 60, 3) := by decide +kernel
theorem dX8_tally_107 : decode cX8_tally 107 = .ok (.invokevirtual 166, 3) := by decide +kernel
theorem dX8_tally_110 : decode cX8_tally 110 = .ok (.invokestatic 206, 3) := by decide +kernel
theorem dX8_tally_113 : decode cX8_tally 113 = .ok (.ireturn, 1) := by decide +kernel
theorem dX8_tally_114 : decode cX8_tally 114 = .ok (.aload_n 0, 1) := by decide +kernel
theorem dX8_tally_115 : decode cX8_tally 115 = .ok (.getfield 10, 3) := by decide +kernel
theorem dX8_tally_118 : decode cX8_tally 118 = .ok (.getfield 60, 3) := by decide +kernel
theorem dX8_tally_121 : decode cX8_tally 121 = .ok (.invokevirtual 351, 3) := by decide +kernel
theorem dX8_tally_124 : decode cX8_tally 124 = .ok (.ireturn, 1) := by decide +kernel
theorem dX8_tally_125 : decode cX8_tally 125 = .ok (.aload_n 0, 1) := by decide +kernel
theorem dX8_tally_126 : decode cX8_tally 126 = .ok (.getfield 10, 3) := by decide +kernel
theorem dX8_tally_129 : decode cX8_tally 129 = .ok (.getfield 232, 3) := by decide +kernel
theorem dX8_tally_132 : decode cX8_tally 132 = .ok (.getfield 236, 3) := by decide +kernel
theorem dX8_tally_135 : decode cX8_tally 135 = .ok (.ireturn, 1) := by decide +kernel
theorem dX8_tally_136 : decode cX8_tally 136 = .ok (.aload_n 0, 1) := by decide +kernel
theorem dX8_tally_137 : decode cX8_tally 137 = .ok (.getfield 10, 3) := by decide +kernel
theorem dX8_tally_140 : decode cX8_tally 140 = .ok (.getfield 253, 3) := by decide +kernel
theorem dX8_tally_143 : decode cX8_tally 143 = .ok (.getfield 236, 3) := by decide +kernel
theorem dX8_tally_146 : decode cX8_tally 146 = .ok (.ireturn, 1) := by decide +kernel
theorem dX8_tally_147 : decode cX8_tally 147 = .ok (.aload_n 0, 1) := by decide +kernel
theorem dX8_tally_148 : decode cX8_tally 148 = .ok (.getfield 10, 3) := by decide +kernel
theorem dX8_tally_151 : decode cX8_tally 151 = .ok (.getfield 256, 3) := by decide +kernel
theorem dX8_tally_154 : decode cX8_tally 154 = .ok (.getfield 236, 3) := by decide +kernel
theorem dX8_tally_157 : decode cX8_tally 157 = .ok (.ireturn, 1) := by decide +kernel
theorem dX8_tally_158 : decode cX8_tally 158 = .ok (.aload_n 0, 1) := by decide +kernel
theorem dX8_tally_159 : decode cX8_tally 159 = .ok (.getfield 10, 3) := by decide +kernel
theorem dX8_tally_162 : decode cX8_tally 162 = .ok (.getfield 87, 3) := by decide +kernel
theorem dX8_tally_165 : decode cX8_tally 165 = .ok (.getfield 91, 3) := by decide +kernel
theorem dX8_tally_168 : decode cX8_tally 168 = .ok (.ireturn, 1) := by decide +kernel
theorem dX8_tally_169 : decode cX8_tally 169 = .ok (.aload_n 0, 1) := by decide +kernel
theorem dX8_tally_170 : decode cX8_tally 170 = .ok (.getfield 41, 3) := by decide +kernel
theorem dX8_tally_173 : decode cX8_tally 173 = .ok (.getfield 108, 3) := by decide +kernel
theorem dX8_tally_176 : decode cX8_tally 176 = .ok (.ireturn, 1) := by decide +kernel
