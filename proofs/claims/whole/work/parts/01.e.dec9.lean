theorem dX9_mark_24 : decode cX9_mark 24 = .ok (.ifCond .eq 14, 3) := by decide +kernel
theorem dX9_mark_27 : decode cX9_mark 27 = .ok (.iload 4, 2) := by decide +kernel
theorem dX9_mark_29 : decode cX9_mark 29 = .ok (.i2l, 1) := by decide +kernel
theorem dX9_mark_30 : decode cX9_mark 30 = .ok (.lconst 0, 1) := by decide +kernel
theorem dX9_mark_31 : decode cX9_mark 31 = .ok (.lconst 1, 1) := by decide +kernel
theorem dX9_mark_32 : decode cX9_mark 32 = .ok (.invokestatic 59, 3) := by decide +kernel
theorem dX9_mark_35 : decode cX9_mark 35 = .ok (.ifCond .ne 10, 3) := by decide +kernel
theorem dX9_mark_38 : decode cX9_mark 38 = .ok (.aload_n 0, 1) := by decide +kernel
theorem dX9_mark_39 : decode cX9_mark 39 = .ok (.bipush (-2), 2) := by decide +kernel
theorem dX9_mark_41 : decode cX9_mark 41 = .ok (.invokevirtual 78, 3) := by decide +kernel
theorem dX9_mark_44 : decode cX9_mark 44 = .ok (.ireturn, 1) := by decide +kernel
theorem dX9_mark_45 : decode cX9_mark 45 = .ok (.aload_n 0, 1) := by decide +kernel
theorem dX9_mark_46 : decode cX9_mark 46 = .ok (.getfield 7, 3) := by decide +kernel
theorem dX9_mark_49 : decode cX9_mark 49 = .ok (.iconst 4, 1) := by decide +kernel
theorem dX9_mark_50 : decode cX9_mark 50 = .ok (.iaload, 1) := by decide +kernel
theorem dX9_mark_51 : decode cX9_mark 51 = .ok (.bipush 6, 2) := by decide +kernel
theorem dX9_mark_53 : decode cX9_mark 53 = .ok (.if_icmp .ne 8, 3) := by decide +kernel
theorem dX9_mark_56 : decode cX9_mark 56 = .ok (.aload_n 0, 1) := by decide +kernel
theorem dX9_mark_57 : decode cX9_mark 57 = .ok (.invokevirtual 82, 3) := by decide +kernel
theorem dX9_mark_60 : decode cX9_mark 60 = .ok (.ireturn, 1) := by decide +kernel
theorem dX9_mark_61 : decode cX9_mark 61 = .ok (.bipush 88, 2) := by decide +kernel
theorem dX9_mark_63 : decode cX9_mark 63 = .ok (.iconst 4, 1) := by decide +kernel
theorem dX9_mark_64 : decode cX9_mark 64 = .ok (.aload_n 0, 1) := by decide +kernel
theorem dX9_mark_65 : decode cX9_mark 65 = .ok (.getfield 7, 3) := by decide +kernel
theorem dX9_mark_68 : decode cX9_mark 68 = .ok (.iconst 4, 1) := by decide +kernel
theorem dX9_mark_69 : decode cX9_mark 69 = .ok (.iaload, 1) := by decide +kernel
theorem dX9_mark_70 : decode cX9_mark 70 = .ok (.imul, 1) := by decide +kernel
theorem dX9_mark_71 : decode cX9_mark 71 = .ok (.iadd, 1) := by decide +kernel
theorem dX9_mark_72 : decode cX9_mark 72 = .ok (.istore 5, 2) := by decide +kernel
theorem dX9_mark_74 : decode cX9_mark 74 = .ok (.aload_n 0, 1) := by decide +kernel
theorem dX9_mark_75 : decode cX9_mark 75 = .ok (.getfield 7, 3) := by decide +kernel
theorem dX9_mark_78 : decode cX9_mark 78 = .ok (.iload 5, 2) := by decide +kernel
theorem dX9_mark_80 : decode cX9_mark 80 = .ok (.iload_n 1, 1) := by decide +kernel
theorem dX9_mark_81 : decode cX9_mark 81 = .ok (.iastore, 1) := by decide +kernel
theorem dX9_mark_82 : decode cX9_mark 82 = .ok (.aload_n 0, 1) := by decide +kernel
theorem dX9_mark_83 : decode cX9_mark 83 = .ok (.getfield 7, 3) := by decide +kernel
theorem dX9_mark_86 : decode cX9_mark 86 = .ok (.iload 5, 2) := by decide +kernel
theorem dX9_mark_88 : decode cX9_mark 88 = .ok (.iconst 1, 1) := by decide +kernel
theorem dX9_mark_89 : decode cX9_mark 89 = .ok (.iadd, 1) := by decide +kernel
theorem dX9_mark_90 : decode cX9_mark 90 = .ok (.iload_n 2, 1) := by decide +kernel
theorem dX9_mark_91 : decode cX9_mark 91 = .ok (.iastore, 1) := by decide +kernel
theorem dX9_mark_92 : decode cX9_mark 92 = .ok (.aload_n 0, 1) := by decide +kernel
theorem dX9_mark_93 : decode cX9_mark 93 = .ok (.getfield 7, 3) := by decide +kernel
theorem dX9_mark_96 : decode cX9_mark 96 = .ok (.iload 5, 2) := by decide +kernel
theorem dX9_mark_98 : decode cX9_mark 98 = .ok (.iconst 2, 1) := by decide +kernel
theorem dX9_mark_99 : decode cX9_mark 99 = .ok (.iadd, 1) := by decide +kernel
theorem dX9_mark_100 : decode cX9_mark 100 = .ok (.iload_n 3, 1) := by decide +kernel
theorem dX9_mark_101 : decode cX9_mark 101 = .ok (.iastore, 1) := by decide +kernel
theorem dX9_mark_102 : decode cX9_mark 102 = .ok (.aload_n 0, 1) := by decide +kernel
theorem dX9_mark_103 : decode cX9_mark 103 = .ok (.getfield 7, 3) := by decide +kernel
theorem dX9_mark_106 : decode cX9_mark 106 = .ok (.iload 5, 2) := by decide +kernel
theorem dX9_mark_108 : decode cX9_mark 108 = .ok (.iconst 3, 1) := by decide +kernel
theorem dX9_mark_109 : decode cX9_mark 109 = .ok (.iadd, 1) := by decide +kernel
theorem dX9_mark_110 : decode cX9_mark 110 = .ok (.iload 4, 2) := by decide +kernel
theorem dX9_mark_112 : decode cX9_mark 112 = .ok (.iastore, 1) := by decide +kernel
theorem dX9_mark_113 : decode cX9_mark 113 = .ok (.aload_n 0, 1) := by decide +kernel
theorem dX9_mark_114 : decode cX9_mark 114 = .ok (.getfield 7, 3) := by decide +kernel
theorem dX9_mark_117 : decode cX9_mark 117 = .ok (.iconst 4, 1) := by decide +kernel
theorem dX9_mark_118 : decode cX9_mark 118 = .ok (.dup2, 1) := by decide +kernel
theorem dX9_mark_119 : decode cX9_mark 119 = .ok (.iaload, 1) := by decide +kernel
theorem dX9_mark_120 : decode cX9_mark 120 = .ok (.iconst 1, 1) := by decide +kernel
theorem dX9_mark_121 : decode cX9_mark 121 = .ok (.iadd, 1) := by decide +kernel
theorem dX9_mark_122 : decode cX9_mark 122 = .ok (.iastore, 1) := by decide +kernel
theorem dX9_mark_123 : decode cX9_mark 123 = .ok (.aload_n 0, 1) := by decide +kernel
theorem dX9_mark_124 : decode cX9_mark 124 = .ok (.getfield 7, 3) := by decide +kernel
theorem dX9_mark_127 : decode cX9_mark 127 = .ok (.iconst 4, 1) := by decide +kernel
theorem dX9_mark_128 : decode cX9_mark 128 = .ok (.iaload, 1) := by decide +kernel
theorem dX9_mark_129 : decode cX9_mark 129 = .ok (.ireturn, 1) := by decide +kernel
theorem dX9_forget_0 : decode cX9_forget 0 = .ok (.iload_n 1, 1) := by decide +kernel
theorem dX9_forget_1 : decode cX9_forget 1 = .ok (.i2l, 1) := by decide +kernel
theorem dX9_forget_2 : decode cX9_forget 2 = .ok (.lconst 0, 1) := by decide +kernel
theorem dX9_forget_3 : decode cX9_forget 3 = .ok (.ldc2_w 167, 3) := by decide +kernel
theorem dX9_forget_6 : decode cX9_forget 6 = .ok (.invokestatic 59, 3) := by decide +kernel
theorem dX9_forget_9 : decode cX9_forget 9 = .ok (.ifCond .ne 10, 3) := by decide +kernel
theorem dX9_forget_12 : decode cX9_forget 12 = .ok (.aload_n 0, 1) := by decide +kernel
theorem dX9_forget_13 : decode cX9_forget 13 = .ok (.bipush (-2), 2) := by decide +kernel
theorem dX9_forget_15 : decode cX9_forget 15 = .ok (.invokevirtual 78, 3) := by decide +kernel
theorem dX9_forget_18 : decode cX9_forget 18 = .ok (.ireturn, 1) := by decide +kernel
theorem dX9_forget_19 : decode cX9_forget 19 = .ok (.aload_n 0, 1) := by decide +kernel
theorem dX9_forget_20 : decode cX9_forget 20 = .ok (.getfield 7, 3) := by decide +kernel
theorem dX9_forget_23 : decode cX9_forget 23 = .ok (.iconst 2, 1) := by decide +kernel
theorem dX9_forget_24 : decode cX9_forget 24 = .ok (.iload_n 1, 1) := by decide +kernel
theorem dX9_forget_25 : decode cX9_forget 25 = .ok (.iadd, 1) := by decide +kernel
theorem dX9_forget_26 : decode cX9_forget 26 = .ok (.iaload, 1) := by decide +kernel
theorem dX9_forget_27 : decode cX9_forget 27 = .ok (.istore_n 2, 1) := by decide +kernel
theorem dX9_forget_28 : decode cX9_forget 28 = .ok (.aload_n 0, 1) := by decide +kernel
theorem dX9_forget_29 : decode cX9_forget 29 = .ok (.getfield 7, 3) := by decide +kernel
theorem dX9_forget_32 : decode cX9_forget 32 = .ok (.iconst 2, 1) := by decide +kernel
theorem dX9_forget_33 : decode cX9_forget 33 = .ok (.iload_n 1, 1) := by decide +kernel
theorem dX9_forget_34 : decode cX9_forget 34 = .ok (.iadd, 1) := by decide +kernel
theorem dX9_forget_35 : decode cX9_forget 35 = .ok (.iconst 0, 1) := by decide +kernel
theorem dX9_forget_36 : decode cX9_forget 36 = .ok (.iastore, 1) := by decide +kernel
theorem dX9_forget_37 : decode cX9_forget 37 = .ok (.iload_n 2, 1) := by decide +kernel
theorem dX9_forget_38 : decode cX9_forget 38 = .ok (.ireturn, 1) := by decide +kernel
theorem dX9_kindsOf_0 : decode cX9_kindsOf 0 = .ok (.iconst 0, 1) := by decide +kernel
theorem dX9_kindsOf_1 : decode cX9_kindsOf 1 = .ok (.istore_n 2, 1) := by decide +kernel
theorem dX9_kindsOf_2 : decode cX9_kindsOf 2 = .ok (.iconst 0, 1) := by decide +kernel
theorem dX9_kindsOf_3 : decode cX9_kindsOf 3 = .ok (.istore_n 3, 1) := by decide +kernel
theorem dX9_kindsOf_4 : decode cX9_kindsOf 4 = .ok (.iload_n 3, 1) := by decide +kernel
theorem dX9_kindsOf_5 : decode cX9_kindsOf 5 = .ok (.bipush 6, 2) := by decide +kernel
theorem dX9_kindsOf_7 : decode cX9_kindsOf 7 = .ok (.if_icmp .ge 122, 3) := by decide +kernel
theorem dX9_kindsOf_10 : decode cX9_kindsOf 10 = .ok (.iconst 1, 1) := by decide +kernel
theorem dX9_kindsOf_11 : decode cX9_kindsOf 11 = .ok (.istore 4, 2) := by decide +kernel
theorem dX9_kindsOf_13 : decode cX9_kindsOf 13 = .ok (.iconst 0, 1) := by decide +kernel
theorem dX9_kindsOf_14 : decode cX9_kindsOf 14 = .ok (.istore 5, 2) := by decide +kernel
theorem dX9_kindsOf_16 : decode cX9_kindsOf 16 = .ok (.iload 5, 2) := by decide +kernel
theorem dX9_kindsOf_18 : decode cX9_kindsOf 18 = .ok (.aload_n 0, 1) := by decide +kernel
theorem dX9_kindsOf_19 : decode cX9_kindsOf 19 = .ok (.getfield 7, 3) := by decide +kernel
theorem dX9_kindsOf_22 : decode cX9_kindsOf 22 = .ok (.iconst 3, 1) := by decide +kernel
theorem dX9_kindsOf_23 : decode cX9_kindsOf 23 = .ok (.iaload, 1) := by decide +kernel
theorem dX9_kindsOf_24 : decode cX9_kindsOf 24 = .ok (.if_icmp .ge 84, 3) := by decide +kernel
theorem dX9_kindsOf_27 : decode cX9_kindsOf 27 = .ok (.bipush 58, 2) := by decide +kernel
theorem dX9_kindsOf_29 : decode cX9_kindsOf 29 = .ok (.iconst 5, 1) := by decide +kernel
theorem dX9_kindsOf_30 : decode cX9_kindsOf 30 = .ok (.iload 5, 2) := by decide +kernel
theorem dX9_kindsOf_32 : decode cX9_kindsOf 32 = .ok (.imul, 1) := by decide +kernel
theorem dX9_kindsOf_33 : decode cX9_kindsOf 33 = .ok (.iadd, 1) := by decide +kernel
theorem dX9_kindsOf_34 : decode cX9_kindsOf 34 = .ok (.istore 6, 2) := by decide +kernel
theorem dX9_kindsOf_36 : decode cX9_kindsOf 36 = .ok (.iload 4, 2) := by decide +kernel
theorem dX9_kindsOf_38 : decode cX9_kindsOf 38 = .ok (.ifCond .eq 61, 3) := by decide +kernel
theorem dX9_kindsOf_41 : decode cX9_kindsOf 41 = .ok (.aload_n 0, 1) := by decide +kernel
theorem dX9_kindsOf_42 : decode cX9_kindsOf 42 = .ok (.getfield 7, 3) := by decide +kernel
theorem dX9_kindsOf_45 : decode cX9_kindsOf 45 = .ok (.iload 6, 2) := by decide +kernel
theorem dX9_kindsOf_47 : decode cX9_kindsOf 47 = .ok (.iaload, 1) := by decide +kernel
theorem dX9_kindsOf_48 : decode cX9_kindsOf 48 = .ok (.iload_n 1, 1) := by decide +kernel
theorem dX9_kindsOf_49 : decode cX9_kindsOf 49 = .ok (.if_icmp .ne 46, 3) := by decide +kernel
theorem dX9_kindsOf_52 : decode cX9_kindsOf 52 = .ok (.iload_n 3, 1) := by decide +kernel
theorem dX9_kindsOf_53 : decode cX9_kindsOf 53 = .ok (.aload_n 0, 1) := by decide +kernel
theorem dX9_kindsOf_54 : decode cX9_kindsOf 54 = .ok (.getfield 7, 3) := by decide +kernel
theorem dX9_kindsOf_57 : decode cX9_kindsOf 57 = .ok (.iload 6, 2) := by decide +kernel
theorem dX9_kindsOf_59 : decode cX9_kindsOf 59 = .ok (.iconst 2, 1) := by decide +kernel
theorem dX9_kindsOf_60 : decode cX9_kindsOf 60 = .ok (.iadd, 1) := by decide +kernel
theorem dX9_kindsOf_61 : decode cX9_kindsOf 61 = .ok (.iaload, 1) := by decide +kernel
theorem dX9_kindsOf_62 : decode cX9_kindsOf 62 = .ok (.aload_n 0, 1) := by decide +kernel
theorem dX9_kindsOf_63 : decode cX9_kindsOf 63 = .ok (.getfield 7, 3) := by decide +kernel
theorem dX9_kindsOf_66 : decode cX9_kindsOf 66 = .ok (.iload 6, 2) := by decide +kernel
theorem dX9_kindsOf_68 : decode cX9_kindsOf 68 = .ok (.iconst 3, 1) := by decide +kernel
theorem dX9_kindsOf_69 : decode cX9_kindsOf 69 = .ok (.iadd, 1) := by decide +kernel
theorem dX9_kindsOf_70 : decode cX9_kindsOf 70 = .ok (.iaload, 1) := by decide +kernel
theorem dX9_kindsOf_71 : decode cX9_kindsOf 71 = .ok (.aload_n 0, 1) := by decide +kernel
theorem dX9_kindsOf_72 : decode cX9_kindsOf 72 = .ok (.getfield 7, 3) := by decide +kernel
theorem dX9_kindsOf_75 : decode cX9_kindsOf 75 = .ok (.iload 6, 2) := by decide +kernel
theorem dX9_kindsOf_77 : decode cX9_kindsOf 77 = .ok (.iconst 1, 1) := by decide +kernel
theorem dX9_kindsOf_78 : decode cX9_kindsOf 78 = .ok (.iadd, 1) := by decide +kernel
theorem dX9_kindsOf_79 : decode cX9_kindsOf 79 = .ok (.iaload, 1) := by decide +kernel
theorem dX9_kindsOf_80 : decode cX9_kindsOf 80 = .ok (.invokestatic 110, 3) := by decide +kernel
theorem dX9_kindsOf_83 : decode cX9_kindsOf 83 = .ok (.aload_n 0, 1) := by decide +kernel
theorem dX9_kindsOf_84 : decode cX9_kindsOf 84 = .ok (.getfield 7, 3) := by decide +kernel
theorem dX9_kindsOf_87 : decode cX9_kindsOf 87 = .ok (.iload 6, 2) := by decide +kernel
theorem dX9_kindsOf_89 : decode cX9_kindsOf 89 = .ok (.iconst 4, 1) := by decide +kernel
theorem dX9_kindsOf_90 : decode cX9_kindsOf 90 = .ok (.iadd, 1) := by decide +kernel
theorem dX9_kindsOf_91 : decode cX9_kindsOf 91 = .ok (.iaload, 1) := by decide +kernel
theorem dX9_kindsOf_92 : decode cX9_kindsOf 92 = .ok (.if_icmp .ne 7, 3) := by decide +kernel
theorem dX9_kindsOf_95 : decode cX9_kindsOf 95 = .ok (.iconst 1, 1) := by decide +kernel
theorem dX9_kindsOf_96 : decode cX9_kindsOf 96 = .ok (.goto 4, 3) := by decide +kernel
theorem dX9_kindsOf_99 : decode cX9_kindsOf 99 = .ok (.iconst 0, 1) := by decide +kernel
theorem dX9_kindsOf_100 : decode cX9_kindsOf 100 = .ok (.istore 4, 2) := by decide +kernel
theorem dX9_kindsOf_102 : decode cX9_kindsOf 102 = .ok (.iinc 5 1, 3) := by decide +kernel
theorem dX9_kindsOf_105 : decode cX9_kindsOf 105 = .ok (.goto (-89), 3) := by decide +kernel
theorem dX9_kindsOf_108 : decode cX9_kindsOf 108 = .ok (.iload_n 2, 1) := by decide +kernel
theorem dX9_kindsOf_109 : decode cX9_kindsOf 109 = .ok (.iload 4, 2) := by decide +kernel
theorem dX9_kindsOf_111 : decode cX9_kindsOf 111 = .ok (.ifCond .eq 9, 3) := by decide +kernel
theorem dX9_kindsOf_114 : decode cX9_kindsOf 114 = .ok (.iconst 1, 1) := by decide +kernel
theorem dX9_kindsOf_115 : decode cX9_kindsOf 115 = .ok (.iload_n 3, 1) := by decide +kernel
theorem dX9_kindsOf_116 : decode cX9_kindsOf 116 = .ok (.ishl, 1) := by decide +kernel
theorem dX9_kindsOf_117 : decode cX9_kindsOf 117 = .ok (.goto 4, 3) := by decide +kernel
theorem dX9_kindsOf_120 : decode cX9_kindsOf 120 = .ok (.iconst 0, 1) := by decide +kernel
theorem dX9_kindsOf_121 : decode cX9_kindsOf 121 = .ok (.ior, 1) := by decide +kernel
theorem dX9_kindsOf_122 : decode cX9_kindsOf 122 = .ok (.istore_n 2, 1) := by decide +kernel
theorem dX9_kindsOf_123 : decode cX9_kindsOf 123 = .ok (.iinc 3 1, 3) := by decide +kernel
theorem dX9_kindsOf_126 : decode cX9_kindsOf 126 = .ok (.goto (-122), 3) := by decide +kernel
theorem dX9_kindsOf_129 : decode cX9_kindsOf 129 = .ok (.iload_n 2, 1) := by decide +kernel
theorem dX9_kindsOf_130 : decode cX9_kindsOf 130 = .ok (.ireturn, 1) := by decide +kernel
theorem dX9_is_0 : decode cX9_is 0 = .ok (.aload_n 0, 1) := by decide +kernel
theorem dX9_is_1 : decode cX9_is 1 = .ok (.iload_n 1, 1) := by decide +kernel
theorem dX9_is_2 : decode cX9_is 2 = .ok (.invokevirtual 153, 3) := by decide +kernel
theorem dX9_is_5 : decode cX9_is 5 = .ok (.ifCond .eq 11, 3) := by decide +kernel
theorem dX9_is_8 : decode cX9_is 8 = .ok (.aload_n 0, 1) := by decide +kernel
theorem dX9_is_9 : decode cX9_is 9 = .ok (.iload_n 1, 1) := by decide +kernel
theorem dX9_is_10 : decode cX9_is 10 = .ok (.invokevirtual 201, 3) := by decide +kernel
theorem dX9_is_13 : decode cX9_is 13 = .ok (.goto 9, 3) := by decide +kernel
theorem dX9_is_16 : decode cX9_is 16 = .ok (.aload_n 0, 1) := by decide +kernel
theorem dX9_is_17 : decode cX9_is 17 = .ok (.bipush (-2), 2) := by decide +kernel
theorem dX9_is_19 : decode cX9_is 19 = .ok (.invokevirtual 78, 3) := by decide +kernel
theorem dX9_is_22 : decode cX9_is 22 = .ok (.ireturn, 1) := by decide +kernel
theorem dX9_look_0 : decode cX9_look 0 = .ok (.aload_n 0, 1) := by decide +kernel
theorem dX9_look_1 : decode cX9_look 1 = .ok (.iload_n 1, 1) := by decide +kernel
theorem dX9_look_2 : decode cX9_look 2 = .ok (.invokevirtual 153, 3) := by decide +kernel
theorem dX9_look_5 : decode cX9_look 5 = .ok (.ifCond .ne 10, 3) := by decide +kernel
theorem dX9_look_8 : decode cX9_look 8 = .ok (.aload_n 0, 1) := by decide +kernel
theorem dX9_look_9 : decode cX9_look 9 = .ok (.bipush (-2), 2) := by decide +kernel
theorem dX9_look_11 : decode cX9_look 11 = .ok (.invokevirtual 78, 3) := by decide +kernel
theorem dX9_look_14 : decode cX9_look 14 = .ok (.ireturn, 1) := by decide +kernel
theorem dX9_look_15 : decode cX9_look 15 = .ok (.aload_n 0, 1) := by decide +kernel
theorem dX9_look_16 : decode cX9_look 16 = .ok (.iload_n 1, 1) := by decide +kernel
theorem dX9_look_17 : decode cX9_look 17 = .ok (.invokevirtual 201, 3) := by decide +kernel
theorem dX9_look_20 : decode cX9_look 20 = .ok (.istore_n 2, 1) := by decide +kernel
theorem dX9_look_21 : decode cX9_look 21 = .ok (.iconst (-1), 1) := by decide +kernel
theorem dX9_look_22 : decode cX9_look 22 = .ok (.istore_n 3, 1) := by decide +kernel
theorem dX9_look_23 : decode cX9_look 23 = .ok (.ldc 186, 2) := by decide +kernel
theorem dX9_look_25 : decode cX9_look 25 = .ok (.istore 4, 2) := by decide +kernel
theorem dX9_look_27 : decode cX9_look 27 = .ok (.iconst 0, 1) := by decide +kernel
theorem dX9_look_28 : decode cX9_look 28 = .ok (.istore 5, 2) := by decide +kernel
theorem dX9_look_30 : decode cX9_look 30 = .ok (.iload 5, 2) := by decide +kernel
theorem dX9_look_32 : decode cX9_look 32 = .ok (.sipush 1110, 3) := by decide +kernel
theorem dX9_look_35 : decode cX9_look 35 = .ok (.if_icmp .ge 202, 3) := by decide +kernel
theorem dX9_look_38 : decode cX9_look 38 = .ok (.iload_n 2, 1) := by decide +kernel
theorem dX9_look_39 : decode cX9_look 39 = .ok (.ifCond .le 198, 3) := by decide +kernel
theorem dX9_look_42 : decode cX9_look 42 = .ok (.iload 5, 2) := by decide +kernel
theorem dX9_look_44 : decode cX9_look 44 = .ok (.bipush 100, 2) := by decide +kernel
theorem dX9_look_46 : decode cX9_look 46 = .ok (.irem, 1) := by decide +kernel
theorem dX9_look_47 : decode cX9_look 47 = .ok (.bipush 10, 2) := by decide +kernel
theorem dX9_look_49 : decode cX9_look 49 = .ok (.if_icmp .ge 7, 3) := by decide +kernel
theorem dX9_look_52 : decode cX9_look 52 = .ok (.iconst 0, 1) := by decide +kernel
theorem dX9_look_53 : decode cX9_look 53 = .ok (.goto 5, 3) := by decide +kernel
theorem dX9_look_56 : decode cX9_look 56 = .ok (.ldc 186, 2) := by decide +kernel
theorem dX9_look_58 : decode cX9_look 58 = .ok (.istore 6, 2) := by decide +kernel
theorem dX9_look_60 : decode cX9_look 60 = .ok (.iconst 0, 1) := by decide +kernel
theorem dX9_look_61 : decode cX9_look 61 = .ok (.istore 7, 2) := by decide +kernel
theorem dX9_look_63 : decode cX9_look 63 = .ok (.iload 7, 2) := by decide +kernel
theorem dX9_look_65 : decode cX9_look 65 = .ok (.bipush 6, 2) := by decide +kernel
theorem dX9_look_67 : decode cX9_look 67 = .ok (.if_icmp .ge 134, 3) := by decide +kernel
theorem dX9_look_70 : decode cX9_look 70 = .ok (.iload 6, 2) := by decide +kernel
theorem dX9_look_72 : decode cX9_look 72 = .ok (.ldc 186, 2) := by decide +kernel
theorem dX9_look_74 : decode cX9_look 74 = .ok (.if_icmp .ge 127, 3) := by decide +kernel
theorem dX9_look_77 : decode cX9_look 77 = .ok (.iconst 0, 1) := by decide +kernel
theorem dX9_look_78 : decode cX9_look 78 = .ok (.istore 8, 2) := by decide +kernel
theorem dX9_look_80 : decode cX9_look 80 = .ok (.iload 7, 2) := by decide +kernel
theorem dX9_look_82 : decode cX9_look 82 = .ok (.iload 5, 2) := by decide +kernel
theorem dX9_look_84 : decode cX9_look 84 = .ok (.bipush 100, 2) := by decide +kernel
theorem dX9_look_86 : decode cX9_look 86 = .ok (.irem, 1) := by decide +kernel
theorem dX9_look_87 : decode cX9_look 87 = .ok (.iload 5, 2) := by decide +kernel
theorem dX9_look_89 : decode cX9_look 89 = .ok (.bipush 100, 2) := by decide +kernel
theorem dX9_look_91 : decode cX9_look 91 = .ok (.idiv, 1) := by decide +kernel
theorem dX9_look_92 : decode cX9_look 92 = .ok (.aload_n 0, 1) := by decide +kernel
theorem dX9_look_93 : decode cX9_look 93 = .ok (.getfield 7, 3) := by decide +kernel
theorem dX9_look_96 : decode cX9_look 96 = .ok (.bipush 35, 2) := by decide +kernel
theorem dX9_look_98 : decode cX9_look 98 = .ok (.iload_n 1, 1) := by decide +kernel
theorem dX9_look_99 : decode cX9_look 99 = .ok (.iadd, 1) := by decide +kernel
theorem dX9_look_100 : decode cX9_look 100 = .ok (.iaload, 1) := by decide +kernel
theorem dX9_look_101 : decode cX9_look 101 = .ok (.invokestatic 110, 3) := by decide +kernel
theorem dX9_look_104 : decode cX9_look 104 = .ok (.istore 9, 2) := by decide +kernel
theorem dX9_look_106 : decode cX9_look 106 = .ok (.iconst 0, 1) := by decide +kernel
theorem dX9_look_107 : decode cX9_look 107 = .ok (.istore 10, 2) := by decide +kernel
theorem dX9_look_109 : decode cX9_look 109 = .ok (.iload 10, 2) := by decide +kernel
theorem dX9_look_111 : decode cX9_look 111 = .ok (.bipush 6, 2) := by decide +kernel
theorem dX9_look_113 : decode cX9_look 113 = .ok (.if_icmp .ge 66, 3) := by decide +kernel
theorem dX9_look_116 : decode cX9_look 116 = .ok (.iload_n 2, 1) := by decide +kernel
theorem dX9_look_117 : decode cX9_look 117 = .ok (.iload 7, 2) := by decide +kernel
theorem dX9_look_119 : decode cX9_look 119 = .ok (.invokestatic 114, 3) := by decide +kernel
theorem dX9_look_122 : decode cX9_look 122 = .ok (.ifCond .eq 57, 3) := by decide +kernel
theorem dX9_look_125 : decode cX9_look 125 = .ok (.iload 8, 2) := by decide +kernel
theorem dX9_look_127 : decode cX9_look 127 = .ok (.iload_n 2, 1) := by decide +kernel
theorem dX9_look_128 : decode cX9_look 128 = .ok (.iload 10, 2) := by decide +kernel
theorem dX9_look_130 : decode cX9_look 130 = .ok (.invokestatic 114, 3) := by decide +kernel
theorem dX9_look_133 : decode cX9_look 133 = .ok (.ifCond .eq 36, 3) := by decide +kernel
theorem dX9_look_136 : decode cX9_look 136 = .ok (.iload 10, 2) := by decide +kernel
theorem dX9_look_138 : decode cX9_look 138 = .ok (.iload 5, 2) := by decide +kernel
theorem dX9_look_140 : decode cX9_look 140 = .ok (.bipush 100, 2) := by decide +kernel
theorem dX9_look_142 : decode cX9_look 142 = .ok (.irem, 1) := by decide +kernel
theorem dX9_look_143 : decode cX9_look 143 = .ok (.iload 5, 2) := by decide +kernel
theorem dX9_look_145 : decode cX9_look 145 = .ok (.bipush 100, 2) := by decide +kernel
theorem dX9_look_147 : decode cX9_look 147 = .ok (.idiv, 1) := by decide +kernel
theorem dX9_look_148 : decode cX9_look 148 = .ok (.aload_n 0, 1) := by decide +kernel
theorem dX9_look_149 : decode cX9_look 149 = .ok (.getfield 7, 3) := by decide +kernel
theorem dX9_look_152 : decode cX9_look 152 = .ok (.bipush 35, 2) := by decide +kernel
theorem dX9_look_154 : decode cX9_look 154 = .ok (.iload_n 1, 1) := by decide +kernel
theorem dX9_look_155 : decode cX9_look 155 = .ok (.iadd, 1) := by decide +kernel
theorem dX9_look_156 : decode cX9_look 156 = .ok (.iaload, 1) := by decide +kernel
theorem dX9_look_157 : decode cX9_look 157 = .ok (.invokestatic 110, 3) := by decide +kernel
theorem dX9_look_160 : decode cX9_look 160 = .ok (.iload 9, 2) := by decide +kernel
theorem dX9_look_162 : decode cX9_look 162 = .ok (.if_icmp .ne 7, 3) := by decide +kernel
theorem dX9_look_165 : decode cX9_look 165 = .ok (.iconst 1, 1) := by decide +kernel
theorem dX9_look_166 : decode cX9_look 166 = .ok (.goto 4, 3) := by decide +kernel
theorem dX9_look_169 : decode cX9_look 169 = .ok (.iconst 0, 1) := by decide +kernel
theorem dX9_look_170 : decode cX9_look 170 = .ok (.iadd, 1) := by decide +kernel
theorem dX9_look_171 : decode cX9_look 171 = .ok (.istore 8, 2) := by decide +kernel
theorem dX9_look_173 : decode cX9_look 173 = .ok (.iinc 10 1, 3) := by decide +kernel
theorem dX9_look_176 : decode cX9_look 176 = .ok (.goto (-67), 3) := by decide +kernel
theorem dX9_look_179 : decode cX9_look 179 = .ok (.iload 8, 2) := by decide +kernel
theorem dX9_look_181 : decode cX9_look 181 = .ok (.iload 6, 2) := by decide +kernel
theorem dX9_look_183 : decode cX9_look 183 = .ok (.if_icmp .le 8, 3) := by decide +kernel
theorem dX9_look_186 : decode cX9_look 186 = .ok (.iload 8, 2) := by decide +kernel
theorem dX9_look_188 : decode cX9_look 188 = .ok (.goto 5, 3) := by decide +kernel
theorem dX9_look_191 : decode cX9_look 191 = .ok (.iload 6, 2) := by decide +kernel
theorem dX9_look_193 : decode cX9_look 193 = .ok (.istore 6, 2) := by decide +kernel
theorem dX9_look_195 : decode cX9_look 195 = .ok (.iinc 7 1, 3) := by decide +kernel
theorem dX9_look_198 : decode cX9_look 198 = .ok (.goto (-135), 3) := by decide +kernel
theorem dX9_look_201 : decode cX9_look 201 = .ok (.iload 6, 2) := by decide +kernel
theorem dX9_look_203 : decode cX9_look 203 = .ok (.iload 4, 2) := by decide +kernel
theorem dX9_look_205 : decode cX9_look 205 = .ok (.if_icmp .ge 8, 3) := by decide +kernel
theorem dX9_look_208 : decode cX9_look 208 = .ok (.iload 5, 2) := by decide +kernel
theorem dX9_look_210 : decode cX9_look 210 = .ok (.goto 4, 3) := by decide +kernel
theorem dX9_look_213 : decode cX9_look 213 = .ok (.iload_n 3, 1) := by decide +kernel
theorem dX9_look_214 : decode cX9_look 214 = .ok (.istore_n 3, 1) := by decide +kernel
theorem dX9_look_215 : decode cX9_look 215 = .ok (.iload 6, 2) := by decide +kernel
theorem dX9_look_217 : decode cX9_look 217 = .ok (.iload 4, 2) := by decide +kernel
theorem dX9_look_219 : decode cX9_look 219 = .ok (.if_icmp .ge 8, 3) := by decide +kernel
theorem dX9_look_222 : decode cX9_look 222 = .ok (.iload 6, 2) := by decide +kernel
theorem dX9_look_224 : decode cX9_look 224 = .ok (.goto 5, 3) := by decide +kernel
theorem dX9_look_227 : decode cX9_look 227 = .ok (.iload 4, 2) := by decide +kernel
theorem dX9_look_229 : decode cX9_look 229 = .ok (.istore 4, 2) := by decide +kernel
theorem dX9_look_231 : decode cX9_look 231 = .ok (.iinc 5 1, 3) := by decide +kernel
theorem dX9_look_234 : decode cX9_look 234 = .ok (.goto (-204), 3) := by decide +kernel
theorem dX9_look_237 : decode cX9_look 237 = .ok (.iload_n 3, 1) := by decide +kernel
theorem dX9_look_238 : decode cX9_look 238 = .ok (.ireturn, 1) := by decide +kernel
theorem dX9_kindsOfWatcher_0 : decode cX9_kindsOfWatcher 0 = .ok (.iconst 0, 1) := by decide +kernel
theorem dX9_kindsOfWatcher_1 : decode cX9_kindsOfWatcher 1 = .ok (.istore_n 2, 1) := by decide +kernel
theorem dX9_kindsOfWatcher_2 : decode cX9_kindsOfWatcher 2 = .ok (.iconst 0, 1) := by decide +kernel
theorem dX9_kindsOfWatcher_3 : decode cX9_kindsOfWatcher 3 = .ok (.istore_n 3, 1) := by decide +kernel
theorem dX9_kindsOfWatcher_4 : decode cX9_kindsOfWatcher 4 = .ok (.iload_n 3, 1) := by decide +kernel
theorem dX9_kindsOfWatcher_5 : decode cX9_kindsOfWatcher 5 = .ok (.bipush 6, 2) := by decide +kernel
theorem dX9_kindsOfWatcher_7 : decode cX9_kindsOfWatcher 7 = .ok (.if_icmp .ge 122, 3) := by decide +kernel
theorem dX9_kindsOfWatcher_10 : decode cX9_kindsOfWatcher 10 = .ok (.iconst 1, 1) := by decide +kernel
theorem dX9_kindsOfWatcher_11 : decode cX9_kindsOfWatcher 11 = .ok (.istore 4, 2) := by decide +kernel
theorem dX9_kindsOfWatcher_13 : decode cX9_kindsOfWatcher 13 = .ok (.iconst 0, 1) := by decide +kernel
theorem dX9_kindsOfWatcher_14 : decode cX9_kindsOfWatcher 14 = .ok (.istore 5, 2) := by decide +kernel
theorem dX9_kindsOfWatcher_16 : decode cX9_kindsOfWatcher 16 = .ok (.iload 5, 2) := by decide +kernel
theorem dX9_kindsOfWatcher_18 : decode cX9_kindsOfWatcher 18 = .ok (.aload_n 0, 1) := by decide +kernel
theorem dX9_kindsOfWatcher_19 : decode cX9_kindsOfWatcher 19 = .ok (.getfield 7, 3) := by decide +kernel
theorem dX9_kindsOfWatcher_22 : decode cX9_kindsOfWatcher 22 = .ok (.iconst 4, 1) := by decide +kernel
theorem dX9_kindsOfWatcher_23 : decode cX9_kindsOfWatcher 23 = .ok (.iaload, 1) := by decide +kernel
theorem dX9_kindsOfWatcher_24 : decode cX9_kindsOfWatcher 24 = .ok (.if_icmp .ge 84, 3) := by decide +kernel
theorem dX9_kindsOfWatcher_27 : decode cX9_kindsOfWatcher 27 = .ok (.bipush 88, 2) := by decide +kernel
theorem dX9_kindsOfWatcher_29 : decode cX9_kindsOfWatcher 29 = .ok (.iconst 4, 1) := by decide +kernel
theorem dX9_kindsOfWatcher_30 : decode cX9_kindsOfWatcher 30 = .ok (.iload 5, 2) := by decide +kernel
theorem dX9_kindsOfWatcher_32 : decode cX9_kindsOfWatcher 32 = .ok (.imul, 1) := by decide +kernel
theorem dX9_kindsOfWatcher_33 : decode cX9_kindsOfWatcher 33 = .ok (.iadd, 1) := by decide +kernel
theorem dX9_kindsOfWatcher_34 : decode cX9_kindsOfWatcher 34 = .ok (.istore 6, 2) := by decide +kernel
theorem dX9_kindsOfWatcher_36 : decode cX9_kindsOfWatcher 36 = .ok (.iload 4, 2) := by decide +kernel
theorem dX9_kindsOfWatcher_38 : decode cX9_kindsOfWatcher 38 = .ok (.ifCond .eq 61, 3) := by decide +kernel
theorem dX9_kindsOfWatcher_41 : decode cX9_kindsOfWatcher 41 = .ok (.aload_n 0, 1) := by decide +kernel
theorem dX9_kindsOfWatcher_42 : decode cX9_kindsOfWatcher 42 = .ok (.getfield 7, 3) := by decide +kernel
theorem dX9_kindsOfWatcher_45 : decode cX9_kindsOfWatcher 45 = .ok (.iload 6, 2) := by decide +kernel
theorem dX9_kindsOfWatcher_47 : decode cX9_kindsOfWatcher 47 = .ok (.iaload, 1) := by decide +kernel
theorem dX9_kindsOfWatcher_48 : decode cX9_kindsOfWatcher 48 = .ok (.iload_n 1, 1) := by decide +kernel
theorem dX9_kindsOfWatcher_49 : decode cX9_kindsOfWatcher 49 = .ok (.if_icmp .ne 46, 3) := by decide +kernel
theorem dX9_kindsOfWatcher_52 : decode cX9_kindsOfWatcher 52 = .ok (.iload_n 3, 1) := by decide +kernel
theorem dX9_kindsOfWatcher_53 : decode cX9_kindsOfWatcher 53 = .ok (.aload_n 0, 1) := by decide +kernel
theorem dX9_kindsOfWatcher_54 : decode cX9_kindsOfWatcher 54 = .ok (.getfield 7, 3) := by decide +kernel
theorem dX9_kindsOfWatcher_57 : decode cX9_kindsOfWatcher 57 = .ok (.iload 6, 2) := by decide +kernel
theorem dX9_kindsOfWatcher_59 : decode cX9_kindsOfWatcher 59 = .ok (.iconst 1, 1) := by decide +kernel
theorem dX9_kindsOfWatcher_60 : decode cX9_kindsOfWatcher 60 = .ok (.iadd, 1) := by decide +kernel
theorem dX9_kindsOfWatcher_61 : decode cX9_kindsOfWatcher 61 = .ok (.iaload, 1) := by decide +kernel
theorem dX9_kindsOfWatcher_62 : decode cX9_kindsOfWatcher 62 = .ok (.aload_n 0, 1) := by decide +kernel
theorem dX9_kindsOfWatcher_63 : decode cX9_kindsOfWatcher 63 = .ok (.getfield 7, 3) := by decide +kernel
theorem dX9_kindsOfWatcher_66 : decode cX9_kindsOfWatcher 66 = .ok (.iload 6, 2) := by decide +kernel
theorem dX9_kindsOfWatcher_68 : decode cX9_kindsOfWatcher 68 = .ok (.iconst 2, 1) := by decide +kernel
theorem dX9_kindsOfWatcher_69 : decode cX9_kindsOfWatcher 69 = .ok (.iadd, 1) := by decide +kernel
theorem dX9_kindsOfWatcher_70 : decode cX9_kindsOfWatcher 70 = .ok (.iaload, 1) := by decide +kernel
theorem dX9_kindsOfWatcher_71 : decode cX9_kindsOfWatcher 71 = .ok (.invokestatic 125, 3) := by decide +kernel
theorem dX9_kindsOfWatcher_74 : decode cX9_kindsOfWatcher 74 = .ok (.aload_n 0, 1) := by decide +kernel
theorem dX9_kindsOfWatcher_75 : decode cX9_kindsOfWatcher 75 = .ok (.getfield 7, 3) := by decide +kernel
theorem dX9_kindsOfWatcher_78 : decode cX9_kindsOfWatcher 78 = .ok (.iload 6, 2) := by decide +kernel
theorem dX9_kindsOfWatcher_80 : decode cX9_kindsOfWatcher 80 = .ok (.iconst 3, 1) := by decide +kernel
theorem dX9_kindsOfWatcher_81 : decode cX9_kindsOfWatcher 81 = .ok (.iadd, 1) := by decide +kernel
theorem dX9_kindsOfWatcher_82 : decode cX9_kindsOfWatcher 82 = .ok (.iaload, 1) := by decide +kernel
theorem dX9_kindsOfWatcher_83 : decode cX9_kindsOfWatcher 83 = .ok (.iconst 1, 1) := by decide +kernel
theorem dX9_kindsOfWatcher_84 : decode cX9_kindsOfWatcher 84 = .ok (.if_icmp .ne 7, 3) := by decide +kernel
theorem dX9_kindsOfWatcher_87 : decode cX9_kindsOfWatcher 87 = .ok (.iconst 1, 1) := by decide +kernel
theorem dX9_kindsOfWatcher_88 : decode cX9_kindsOfWatcher 88 = .ok (.goto 4, 3) := by decide +kernel
theorem dX9_kindsOfWatcher_91 : decode cX9_kindsOfWatcher 91 = .ok (.iconst 0, 1) := by decide +kernel
theorem dX9_kindsOfWatcher_92 : decode cX9_kindsOfWatcher 92 = .ok (.if_icmp .ne 7, 3) := by decide +kernel
theorem dX9_kindsOfWatcher_95 : decode cX9_kindsOfWatcher 95 = .ok (.iconst 1, 1) := by decide +kernel
theorem dX9_kindsOfWatcher_96 : decode cX9_kindsOfWatcher 96 = .ok (.goto 4, 3) := by decide +kernel
theorem dX9_kindsOfWatcher_99 : decode cX9_kindsOfWatcher 99 = .ok (.iconst 0, 1) := by decide +kernel
theorem dX9_kindsOfWatcher_100 : decode cX9_kindsOfWatcher 100 = .ok (.istore 4, 2) := by decide +kernel
theorem dX9_kindsOfWatcher_102 : decode cX9_kindsOfWatcher 102 = .ok (.iinc 5 1, 3) := by decide +kernel
theorem dX9_kindsOfWatcher_105 : decode cX9_kindsOfWatcher 105 = .ok (.goto (-89), 3) := by decide +kernel
theorem dX9_kindsOfWatcher_108 : decode cX9_kindsOfWatcher 108 = .ok (.iload_n 2, 1) := by decide +kernel
theorem dX9_kindsOfWatcher_109 : decode cX9_kindsOfWatcher 109 = .ok (.iload 4, 2) := by decide +kernel
theorem dX9_kindsOfWatcher_111 : decode cX9_kindsOfWatcher 111 = .ok (.ifCond .eq 9, 3) := by decide +kernel
theorem dX9_kindsOfWatcher_114 : decode cX9_kindsOfWatcher 114 = .ok (.iconst 1, 1) := by decide +kernel
theorem dX9_kindsOfWatcher_115 : decode cX9_kindsOfWatcher 115 = .ok (.iload_n 3, 1) := by decide +kernel
theorem dX9_kindsOfWatcher_116 : decode cX9_kindsOfWatcher 116 = .ok (.ishl, 1) := by decide +kernel
theorem dX9_kindsOfWatcher_117 : decode cX9_kindsOfWatcher 117 = .ok (.goto 4, 3) := by decide +kernel
theorem dX9_kindsOfWatcher_120 : decode cX9_kindsOfWatcher 120 = .ok (.iconst 0, 1) := by decide +kernel
theorem dX9_kindsOfWatcher_121 : decode cX9_kindsOfWatcher 121 = .ok (.ior, 1) := by decide +kernel
theorem dX9_kindsOfWatcher_122 : decode cX9_kindsOfWatcher 122 = .ok (.istore_n 2, 1) := by decide +kernel
theorem dX9_kindsOfWatcher_123 : decode cX9_kindsOfWatcher 123 = .ok (.iinc 3 1, 3) := by decide +kernel
theorem dX9_kindsOfWatcher_126 : decode cX9_kindsOfWatcher 126 = .ok (.goto (-122), 3) := by decide +kernel
theorem dX9_kindsOfWatcher_129 : decode cX9_kindsOfWatcher 129 = .ok (.iload_n 2, 1) := by decide +kernel
theorem dX9_kindsOfWatcher_130 : decode cX9_kindsOfWatcher 130 = .ok (.ireturn, 1) := by decide +kernel
theorem dX9_what_0 : decode cX9_what 0 = .ok (.aload_n 0, 1) := by decide +kernel
theorem dX9_what_1 : decode cX9_what 1 = .ok (.iload_n 1, 1) := by decide +kernel
theorem dX9_what_2 : decode cX9_what 2 = .ok (.invokevirtual 159, 3) := by decide +kernel
theorem dX9_what_5 : decode cX9_what 5 = .ok (.ifCond .eq 11, 3) := by decide +kernel
theorem dX9_what_8 : decode cX9_what 8 = .ok (.aload_n 0, 1) := by decide +kernel
theorem dX9_what_9 : decode cX9_what 9 = .ok (.iload_n 1, 1) := by decide +kernel
theorem dX9_what_10 : decode cX9_what 10 = .ok (.invokevirtual 204, 3) := by decide +kernel
theorem dX9_what_13 : decode cX9_what 13 = .ok (.goto 9, 3) := by decide +kernel
theorem dX9_what_16 : decode cX9_what 16 = .ok (.aload_n 0, 1) := by decide +kernel
theorem dX9_what_17 : decode cX9_what 17 = .ok (.bipush (-2), 2) := by decide +kernel
theorem dX9_what_19 : decode cX9_what 19 = .ok (.invokevirtual 78, 3) := by decide +kernel
theorem dX9_what_22 : decode cX9_what 22 = .ok (.ireturn, 1) := by decide +kernel
theorem dX9_tries_0 : decode cX9_tries 0 = .ok (.aload_n 0, 1) := by decide +kernel
theorem dX9_tries_1 : decode cX9_tries 1 = .ok (.iload_n 1, 1) := by decide +kernel
theorem dX9_tries_2 : decode cX9_tries 2 = .ok (.invokevirtual 159, 3) := by decide +kernel
theorem dX9_tries_5 : decode cX9_tries 5 = .ok (.ifCond .ne 10, 3) := by decide +kernel
theorem dX9_tries_8 : decode cX9_tries 8 = .ok (.aload_n 0, 1) := by decide +kernel
theorem dX9_tries_9 : decode cX9_tries 9 = .ok (.bipush (-2), 2) := by decide +kernel
theorem dX9_tries_11 : decode cX9_tries 11 = .ok (.invokevirtual 78, 3) := by decide +kernel
theorem dX9_tries_14 : decode cX9_tries 14 = .ok (.ireturn, 1) := by decide +kernel
theorem dX9_tries_15 : decode cX9_tries 15 = .ok (.aload_n 0, 1) := by decide +kernel
theorem dX9_tries_16 : decode cX9_tries 16 = .ok (.iload_n 1, 1) := by decide +kernel
theorem dX9_tries_17 : decode cX9_tries 17 = .ok (.invokevirtual 204, 3) := by decide +kernel
theorem dX9_tries_20 : decode cX9_tries 20 = .ok (.istore_n 2, 1) := by decide +kernel
theorem dX9_tries_21 : decode cX9_tries 21 = .ok (.iconst (-1), 1) := by decide +kernel
theorem dX9_tries_22 : decode cX9_tries 22 = .ok (.istore_n 3, 1) := by decide +kernel
theorem dX9_tries_23 : decode cX9_tries 23 = .ok (.ldc 186, 2) := by decide +kernel
theorem dX9_tries_25 : decode cX9_tries 25 = .ok (.istore 4, 2) := by decide +kernel
theorem dX9_tries_27 : decode cX9_tries 27 = .ok (.iconst 0, 1) := by decide +kernel
theorem dX9_tries_28 : decode cX9_tries 28 = .ok (.istore 5, 2) := by decide +kernel
theorem dX9_tries_30 : decode cX9_tries 30 = .ok (.iload 5, 2) := by decide +kernel
theorem dX9_tries_32 : decode cX9_tries 32 = .ok (.sipush 941, 3) := by decide +kernel
theorem dX9_tries_35 : decode cX9_tries 35 = .ok (.if_icmp .ge 139, 3) := by decide +kernel
theorem dX9_tries_38 : decode cX9_tries 38 = .ok (.iload_n 2, 1) := by decide +kernel
theorem dX9_tries_39 : decode cX9_tries 39 = .ok (.ifCond .le 135, 3) := by decide +kernel
theorem dX9_tries_42 : decode cX9_tries 42 = .ok (.iconst 0, 1) := by decide +kernel
theorem dX9_tries_43 : decode cX9_tries 43 = .ok (.istore 6, 2) := by decide +kernel
theorem dX9_tries_45 : decode cX9_tries 45 = .ok (.iconst 0, 1) := by decide +kernel
theorem dX9_tries_46 : decode cX9_tries 46 = .ok (.istore 7, 2) := by decide +kernel
theorem dX9_tries_48 : decode cX9_tries 48 = .ok (.iload 7, 2) := by decide +kernel
theorem dX9_tries_50 : decode cX9_tries 50 = .ok (.bipush 6, 2) := by decide +kernel
theorem dX9_tries_52 : decode cX9_tries 52 = .ok (.if_icmp .ge 46, 3) := by decide +kernel
theorem dX9_tries_55 : decode cX9_tries 55 = .ok (.iload 6, 2) := by decide +kernel
theorem dX9_tries_57 : decode cX9_tries 57 = .ok (.iload_n 2, 1) := by decide +kernel
theorem dX9_tries_58 : decode cX9_tries 58 = .ok (.iload 7, 2) := by decide +kernel
theorem dX9_tries_60 : decode cX9_tries 60 = .ok (.invokestatic 114, 3) := by decide +kernel
theorem dX9_tries_63 : decode cX9_tries 63 = .ok (.ifCond .eq 25, 3) := by decide +kernel
theorem dX9_tries_66 : decode cX9_tries 66 = .ok (.iload 7, 2) := by decide +kernel
theorem dX9_tries_68 : decode cX9_tries 68 = .ok (.iload 5, 2) := by decide +kernel
theorem dX9_tries_70 : decode cX9_tries 70 = .ok (.bipush 100, 2) := by decide +kernel
theorem dX9_tries_72 : decode cX9_tries 72 = .ok (.idiv, 1) := by decide +kernel
theorem dX9_tries_73 : decode cX9_tries 73 = .ok (.iload 5, 2) := by decide +kernel
theorem dX9_tries_75 : decode cX9_tries 75 = .ok (.bipush 100, 2) := by decide +kernel
theorem dX9_tries_77 : decode cX9_tries 77 = .ok (.irem, 1) := by decide +kernel
theorem dX9_tries_78 : decode cX9_tries 78 = .ok (.invokestatic 125, 3) := by decide +kernel
theorem dX9_tries_81 : decode cX9_tries 81 = .ok (.ifCond .eq 7, 3) := by decide +kernel
theorem dX9_tries_84 : decode cX9_tries 84 = .ok (.iconst 1, 1) := by decide +kernel
theorem dX9_tries_85 : decode cX9_tries 85 = .ok (.goto 4, 3) := by decide +kernel
theorem dX9_tries_88 : decode cX9_tries 88 = .ok (.iconst 0, 1) := by decide +kernel
theorem dX9_tries_89 : decode cX9_tries 89 = .ok (.iadd, 1) := by decide +kernel
theorem dX9_tries_90 : decode cX9_tries 90 = .ok (.istore 6, 2) := by decide +kernel
theorem dX9_tries_92 : decode cX9_tries 92 = .ok (.iinc 7 1, 3) := by decide +kernel
theorem dX9_tries_95 : decode cX9_tries 95 = .ok (.goto (-47), 3) := by decide +kernel
theorem dX9_tries_98 : decode cX9_tries 98 = .ok (.iload_n 2, 1) := by decide +kernel
theorem dX9_tries_99 : decode cX9_tries 99 = .ok (.invokestatic 183, 3) := by decide +kernel
theorem dX9_tries_102 : decode cX9_tries 102 = .ok (.iload 6, 2) := by decide +kernel
theorem dX9_tries_104 : decode cX9_tries 104 = .ok (.isub, 1) := by decide +kernel
theorem dX9_tries_105 : decode cX9_tries 105 = .ok (.istore 7, 2) := by decide +kernel
theorem dX9_tries_107 : decode cX9_tries 107 = .ok (.iload 5, 2) := by decide +kernel
theorem dX9_tries_109 : decode cX9_tries 109 = .ok (.bipush 100, 2) := by decide +kernel
theorem dX9_tries_111 : decode cX9_tries 111 = .ok (.irem, 1) := by decide +kernel
theorem dX9_tries_112 : decode cX9_tries 112 = .ok (.bipush 40, 2) := by decide +kernel
theorem dX9_tries_114 : decode cX9_tries 114 = .ok (.if_icmp .le 8, 3) := by decide +kernel
theorem dX9_tries_117 : decode cX9_tries 117 = .ok (.ldc 186, 2) := by decide +kernel
theorem dX9_tries_119 : decode cX9_tries 119 = .ok (.goto 17, 3) := by decide +kernel
theorem dX9_tries_122 : decode cX9_tries 122 = .ok (.iload 6, 2) := by decide +kernel
theorem dX9_tries_124 : decode cX9_tries 124 = .ok (.iload 7, 2) := by decide +kernel
theorem dX9_tries_126 : decode cX9_tries 126 = .ok (.if_icmp .le 8, 3) := by decide +kernel
theorem dX9_tries_129 : decode cX9_tries 129 = .ok (.iload 6, 2) := by decide +kernel
theorem dX9_tries_131 : decode cX9_tries 131 = .ok (.goto 5, 3) := by decide +kernel
theorem dX9_tries_134 : decode cX9_tries 134 = .ok (.iload 7, 2) := by decide +kernel
theorem dX9_tries_136 : decode cX9_tries 136 = .ok (.istore 8, 2) := by decide +kernel
theorem dX9_tries_138 : decode cX9_tries 138 = .ok (.iload 8, 2) := by decide +kernel
theorem dX9_tries_140 : decode cX9_tries 140 = .ok (.iload 4, 2) := by decide +kernel
theorem dX9_tries_142 : decode cX9_tries 142 = .ok (.if_icmp .ge 8, 3) := by decide +kernel
theorem dX9_tries_145 : decode cX9_tries 145 = .ok (.iload 5, 2) := by decide +kernel
theorem dX9_tries_147 : decode cX9_tries 147 = .ok (.goto 4, 3) := by decide +kernel
theorem dX9_tries_150 : decode cX9_tries 150 = .ok (.iload_n 3, 1) := by decide +kernel
theorem dX9_tries_151 : decode cX9_tries 151 = .ok (.istore_n 3, 1) := by decide +kernel
theorem dX9_tries_152 : decode cX9_tries 152 = .ok (.iload 8, 2) := by decide +kernel
theorem dX9_tries_154 : decode cX9_tries 154 = .ok (.iload 4, 2) := by decide +kernel
theorem dX9_tries_156 : decode cX9_tries 156 = .ok (.if_icmp .ge 8, 3) := by decide +kernel
theorem dX9_tries_159 : decode cX9_tries 159 = .ok (.iload 8, 2) := by decide +kernel
theorem dX9_tries_161 : decode cX9_tries 161 = .ok (.goto 5, 3) := by decide +kernel
theorem dX9_tries_164 : decode cX9_tries 164 = .ok (.iload 4, 2) := by decide +kernel
theorem dX9_tries_166 : decode cX9_tries 166 = .ok (.istore 4, 2) := by decide +kernel
theorem dX9_tries_168 : decode cX9_tries 168 = .ok (.iinc 5 1, 3) := by decide +kernel
theorem dX9_tries_171 : decode cX9_tries 171 = .ok (.goto (-141), 3) := by decide +kernel
theorem dX9_tries_174 : decode cX9_tries 174 = .ok (.iload_n 3, 1) := by decide +kernel
theorem dX9_tries_175 : decode cX9_tries 175 = .ok (.ireturn, 1) := by decide +kernel
theorem dX9_game_0 : decode cX9_game 0 = .ok (.aload_n 0, 1) := by decide +kernel
theorem dX9_game_1 : decode cX9_game 1 = .ok (.iload_n 1, 1) := by decide +kernel
theorem dX9_game_2 : decode cX9_game 2 = .ok (.invokevirtual 159, 3) := by decide +kernel
theorem dX9_game_5 : decode cX9_game 5 = .ok (.ifCond .eq 22, 3) := by decide +kernel
theorem dX9_game_8 : decode cX9_game 8 = .ok (.iload_n 2, 1) := by decide +kernel
theorem dX9_game_9 : decode cX9_game 9 = .ok (.invokestatic 74, 3) := by decide +kernel
theorem dX9_game_12 : decode cX9_game 12 = .ok (.ifCond .eq 15, 3) := by decide +kernel
theorem dX9_game_15 : decode cX9_game 15 = .ok (.iload_n 3, 1) := by decide +kernel
theorem dX9_game_16 : decode cX9_game 16 = .ok (.invokestatic 74, 3) := by decide +kernel
theorem dX9_game_19 : decode cX9_game 19 = .ok (.ifCond .eq 8, 3) := by decide +kernel
theorem dX9_game_22 : decode cX9_game 22 = .ok (.iload_n 2, 1) := by decide +kernel
theorem dX9_game_23 : decode cX9_game 23 = .ok (.iload_n 3, 1) := by decide +kernel
theorem dX9_game_24 : decode cX9_game 24 = .ok (.if_icmp .ne 10, 3) := by decide +kernel
theorem dX9_game_27 : decode cX9_game 27 = .ok (.aload_n 0, 1) := by decide +kernel
theorem dX9_game_28 : decode cX9_game 28 = .ok (.bipush (-2), 2) := by decide +kernel
theorem dX9_game_30 : decode cX9_game 30 = .ok (.invokevirtual 78, 3) := by decide +kernel
theorem dX9_game_33 : decode cX9_game 33 = .ok (.ireturn, 1) := by decide +kernel
theorem dX9_game_34 : decode cX9_game 34 = .ok (.iconst 0, 1) := by decide +kernel
theorem dX9_game_35 : decode cX9_game 35 = .ok (.istore 4, 2) := by decide +kernel
theorem dX9_game_37 : decode cX9_game 37 = .ok (.iconst 0, 1) := by decide +kernel
theorem dX9_game_38 : decode cX9_game 38 = .ok (.istore 5, 2) := by decide +kernel
theorem dX9_game_40 : decode cX9_game 40 = .ok (.iload 5, 2) := by decide +kernel
theorem dX9_game_42 : decode cX9_game 42 = .ok (.iconst 4, 1) := by decide +kernel
theorem dX9_game_43 : decode cX9_game 43 = .ok (.if_icmp .ge 81, 3) := by decide +kernel
theorem dX9_game_46 : decode cX9_game 46 = .ok (.aload_n 0, 1) := by decide +kernel
theorem dX9_game_47 : decode cX9_game 47 = .ok (.getfield 7, 3) := by decide +kernel
theorem dX9_game_50 : decode cX9_game 50 = .ok (.aload_n 0, 1) := by decide +kernel
theorem dX9_game_51 : decode cX9_game 51 = .ok (.getfield 7, 3) := by decide +kernel
theorem dX9_game_54 : decode cX9_game 54 = .ok (.bipush 40, 2) := by decide +kernel
theorem dX9_game_56 : decode cX9_game 56 = .ok (.iload_n 1, 1) := by decide +kernel
theorem dX9_game_57 : decode cX9_game 57 = .ok (.iadd, 1) := by decide +kernel
theorem dX9_game_58 : decode cX9_game 58 = .ok (.iaload, 1) := by decide +kernel
theorem dX9_game_59 : decode cX9_game 59 = .ok (.iload 5, 2) := by decide +kernel
theorem dX9_game_61 : decode cX9_game 61 = .ok (.iconst 1, 1) := by decide +kernel
theorem dX9_game_62 : decode cX9_game 62 = .ok (.if_icmp .le 7, 3) := by decide +kernel
theorem dX9_game_65 : decode cX9_game 65 = .ok (.iload_n 3, 1) := by decide +kernel
theorem dX9_game_66 : decode cX9_game 66 = .ok (.goto 4, 3) := by decide +kernel
theorem dX9_game_69 : decode cX9_game 69 = .ok (.iload_n 2, 1) := by decide +kernel
theorem dX9_game_70 : decode cX9_game 70 = .ok (.iload 5, 2) := by decide +kernel
theorem dX9_game_72 : decode cX9_game 72 = .ok (.iconst 0, 1) := by decide +kernel
theorem dX9_game_73 : decode cX9_game 73 = .ok (.invokestatic 114, 3) := by decide +kernel
theorem dX9_game_76 : decode cX9_game 76 = .ok (.ifCond .eq 7, 3) := by decide +kernel
theorem dX9_game_79 : decode cX9_game 79 = .ok (.iload_n 3, 1) := by decide +kernel
theorem dX9_game_80 : decode cX9_game 80 = .ok (.goto 4, 3) := by decide +kernel
theorem dX9_game_83 : decode cX9_game 83 = .ok (.iload_n 2, 1) := by decide +kernel
theorem dX9_game_84 : decode cX9_game 84 = .ok (.aload_n 0, 1) := by decide +kernel
theorem dX9_game_85 : decode cX9_game 85 = .ok (.getfield 7, 3) := by decide +kernel
theorem dX9_game_88 : decode cX9_game 88 = .ok (.invokestatic 133, 3) := by decide +kernel
theorem dX9_game_91 : decode cX9_game 91 = .ok (.aload_n 0, 1) := by decide +kernel
theorem dX9_game_92 : decode cX9_game 92 = .ok (.invokevirtual 169, 3) := by decide +kernel
theorem dX9_game_95 : decode cX9_game 95 = .ok (.invokestatic 129, 3) := by decide +kernel
theorem dX9_game_98 : decode cX9_game 98 = .ok (.istore 6, 2) := by decide +kernel
theorem dX9_game_100 : decode cX9_game 100 = .ok (.iload 4, 2) := by decide +kernel
theorem dX9_game_102 : decode cX9_game 102 = .ok (.iload 6, 2) := by decide +kernel
theorem dX9_game_104 : decode cX9_game 104 = .ok (.ifCond .eq 10, 3) := by decide +kernel
theorem dX9_game_107 : decode cX9_game 107 = .ok (.iconst 1, 1) := by decide +kernel
theorem dX9_game_108 : decode cX9_game 108 = .ok (.iload 5, 2) := by decide +kernel
theorem dX9_game_110 : decode cX9_game 110 = .ok (.ishl, 1) := by decide +kernel
theorem dX9_game_111 : decode cX9_game 111 = .ok (.goto 4, 3) := by decide +kernel
theorem dX9_game_114 : decode cX9_game 114 = .ok (.iconst 0, 1) := by decide +kernel
theorem dX9_game_115 : decode cX9_game 115 = .ok (.ior, 1) := by decide +kernel
theorem dX9_game_116 : decode cX9_game 116 = .ok (.istore 4, 2) := by decide +kernel
theorem dX9_game_118 : decode cX9_game 118 = .ok (.iinc 5 1, 3) := by decide +kernel
theorem dX9_game_121 : decode cX9_game 121 = .ok (.goto (-81), 3) := by decide +kernel
theorem dX9_game_124 : decode cX9_game 124 = .ok (.iconst 0, 1) := by decide +kernel
theorem dX9_game_125 : decode cX9_game 125 = .ok (.istore 5, 2) := by decide +kernel
theorem dX9_game_127 : decode cX9_game 127 = .ok (.iconst 0, 1) := by decide +kernel
theorem dX9_game_128 : decode cX9_game 128 = .ok (.istore 6, 2) := by decide +kernel
theorem dX9_game_130 : decode cX9_game 130 = .ok (.iload 6, 2) := by decide +kernel
theorem dX9_game_132 : decode cX9_game 132 = .ok (.iconst 4, 1) := by decide +kernel
theorem dX9_game_133 : decode cX9_game 133 = .ok (.if_icmp .ge 68, 3) := by decide +kernel
theorem dX9_game_136 : decode cX9_game 136 = .ok (.iload 4, 2) := by decide +kernel
theorem dX9_game_138 : decode cX9_game 138 = .ok (.iload 6, 2) := by decide +kernel
theorem dX9_game_140 : decode cX9_game 140 = .ok (.invokestatic 114, 3) := by decide +kernel
theorem dX9_game_143 : decode cX9_game 143 = .ok (.ifCond .eq 15, 3) := by decide +kernel
theorem dX9_game_146 : decode cX9_game 146 = .ok (.iload 4, 2) := by decide +kernel
theorem dX9_game_148 : decode cX9_game 148 = .ok (.iload 6, 2) := by decide +kernel
theorem dX9_game_150 : decode cX9_game 150 = .ok (.iconst 1, 1) := by decide +kernel
theorem dX9_game_151 : decode cX9_game 151 = .ok (.ixor, 1) := by decide +kernel
theorem dX9_game_152 : decode cX9_game 152 = .ok (.invokestatic 114, 3) := by decide +kernel
theorem dX9_game_155 : decode cX9_game 155 = .ok (.goto 20, 3) := by decide +kernel
theorem dX9_game_158 : decode cX9_game 158 = .ok (.iload 4, 2) := by decide +kernel
theorem dX9_game_160 : decode cX9_game 160 = .ok (.iload 6, 2) := by decide +kernel
theorem dX9_game_162 : decode cX9_game 162 = .ok (.iconst 2, 1) := by decide +kernel
theorem dX9_game_163 : decode cX9_game 163 = .ok (.ixor, 1) := by decide +kernel
theorem dX9_game_164 : decode cX9_game 164 = .ok (.invokestatic 114, 3) := by decide +kernel
theorem dX9_game_167 : decode cX9_game 167 = .ok (.ifCond .ne 7, 3) := by decide +kernel
theorem dX9_game_170 : decode cX9_game 170 = .ok (.iconst 1, 1) := by decide +kernel
theorem dX9_game_171 : decode cX9_game 171 = .ok (.goto 4, 3) := by decide +kernel
theorem dX9_game_174 : decode cX9_game 174 = .ok (.iconst 0, 1) := by decide +kernel
theorem dX9_game_175 : decode cX9_game 175 = .ok (.istore 7, 2) := by decide +kernel
theorem dX9_game_177 : decode cX9_game 177 = .ok (.iload 5, 2) := by decide +kernel
theorem dX9_game_179 : decode cX9_game 179 = .ok (.iload 7, 2) := by decide +kernel
theorem dX9_game_181 : decode cX9_game 181 = .ok (.ifCond .eq 10, 3) := by decide +kernel
theorem dX9_game_184 : decode cX9_game 184 = .ok (.iconst 1, 1) := by decide +kernel
theorem dX9_game_185 : decode cX9_game 185 = .ok (.iload 6, 2) := by decide +kernel
theorem dX9_game_187 : decode cX9_game 187 = .ok (.ishl, 1) := by decide +kernel
theorem dX9_game_188 : decode cX9_game 188 = .ok (.goto 4, 3) := by decide +kernel
theorem dX9_game_191 : decode cX9_game 191 = .ok (.iconst 0, 1) := by decide +kernel
theorem dX9_game_192 : decode cX9_game 192 = .ok (.ior, 1) := by decide +kernel
theorem dX9_game_193 : decode cX9_game 193 = .ok (.istore 5, 2) := by decide +kernel
theorem dX9_game_195 : decode cX9_game 195 = .ok (.iinc 6 1, 3) := by decide +kernel
theorem dX9_game_198 : decode cX9_game 198 = .ok (.goto (-68), 3) := by decide +kernel
theorem dX9_game_201 : decode cX9_game 201 = .ok (.iload 5, 2) := by decide +kernel
theorem dX9_game_203 : decode cX9_game 203 = .ok (.ireturn, 1) := by decide +kernel
theorem dX9_fraction_0 : decode cX9_fraction 0 = .ok (.lload_n 1, 1) := by decide +kernel
theorem dX9_fraction_1 : decode cX9_fraction 1 = .ok (.lstore 5, 2) := by decide +kernel
theorem dX9_fraction_3 : decode cX9_fraction 3 = .ok (.lload_n 3, 1) := by decide +kernel
theorem dX9_fraction_4 : decode cX9_fraction 4 = .ok (.lstore 7, 2) := by decide +kernel
theorem dX9_fraction_6 : decode cX9_fraction 6 = .ok (.lload 7, 2) := by decide +kernel
theorem dX9_fraction_8 : decode cX9_fraction 8 = .ok (.lconst 0, 1) := by decide +kernel
theorem dX9_fraction_9 : decode cX9_fraction 9 = .ok (.lcmp, 1) := by decide +kernel
theorem dX9_fraction_10 : decode cX9_fraction 10 = .ok (.ifCond .eq 21, 3) := by decide +kernel
theorem dX9_fraction_13 : decode cX9_fraction 13 = .ok (.lload 5, 2) := by decide +kernel
theorem dX9_fraction_15 : decode cX9_fraction 15 = .ok (.lload 7, 2) := by decide +kernel
theorem dX9_fraction_17 : decode cX9_fraction 17 = .ok (.lrem, 1) := by decide +kernel
theorem dX9_fraction_18 : decode cX9_fraction 18 = .ok (.lstore 9, 2) := by decide +kernel
theorem dX9_fraction_20 : decode cX9_fraction 20 = .ok (.lload 7, 2) := by decide +kernel
theorem dX9_fraction_22 : decode cX9_fraction 22 = .ok (.lstore 5, 2) := by decide +kernel
theorem dX9_fraction_24 : decode cX9_fraction 24 = .ok (.lload 9, 2) := by decide +kernel
theorem dX9_fraction_26 : decode cX9_fraction 26 = .ok (.lstore 7, 2) := by decide +kernel
theorem dX9_fraction_28 : decode cX9_fraction 28 = .ok (.goto (-22), 3) := by decide +kernel
theorem dX9_fraction_31 : decode cX9_fraction 31 = .ok (.aload_n 0, 1) := by decide +kernel
theorem dX9_fraction_32 : decode cX9_fraction 32 = .ok (.lload_n 1, 1) := by decide +kernel
theorem dX9_fraction_33 : decode cX9_fraction 33 = .ok (.lload 5, 2) := by decide +kernel
theorem dX9_fraction_35 : decode cX9_fraction 35 = .ok (.ldiv, 1) := by decide +kernel
theorem dX9_fraction_36 : decode cX9_fraction 36 = .ok (.putfield 207, 3) := by decide +kernel
theorem dX9_fraction_39 : decode cX9_fraction 39 = .ok (.aload_n 0, 1) := by decide +kernel
theorem dX9_fraction_40 : decode cX9_fraction 40 = .ok (.lload_n 3, 1) := by decide +kernel
theorem dX9_fraction_41 : decode cX9_fraction 41 = .ok (.lload 5, 2) := by decide +kernel
theorem dX9_fraction_43 : decode cX9_fraction 43 = .ok (.ldiv, 1) := by decide +kernel
theorem dX9_fraction_44 : decode cX9_fraction 44 = .ok (.putfield 23, 3) := by decide +kernel
theorem dX9_fraction_47 : decode cX9_fraction 47 = .ok (.return_, 1) := by decide +kernel
theorem dX9_fails_0 : decode cX9_fails 0 = .ok (.iload_n 1, 1) := by decide +kernel
theorem dX9_fails_1 : decode cX9_fails 1 = .ok (.invokestatic 74, 3) := by decide +kernel
theorem dX9_fails_4 : decode cX9_fails 4 = .ok (.ifCond .eq 15, 3) := by decide +kernel
theorem dX9_fails_7 : decode cX9_fails 7 = .ok (.iload_n 2, 1) := by decide +kernel
theorem dX9_fails_8 : decode cX9_fails 8 = .ok (.i2l, 1) := by decide +kernel
theorem dX9_fails_9 : decode cX9_fails 9 = .ok (.lconst 0, 1) := by decide +kernel
theorem dX9_fails_10 : decode cX9_fails 10 = .ok (.ldc2_w 210, 3) := by decide +kernel
theorem dX9_fails_13 : decode cX9_fails 13 = .ok (.invokestatic 59, 3) := by decide +kernel
theorem dX9_fails_16 : decode cX9_fails 16 = .ok (.ifCond .ne 10, 3) := by decide +kernel
theorem dX9_fails_19 : decode cX9_fails 19 = .ok (.aload_n 0, 1) := by decide +kernel
theorem dX9_fails_20 : decode cX9_fails 20 = .ok (.bipush (-2), 2) := by decide +kernel
theorem dX9_fails_22 : decode cX9_fails 22 = .ok (.invokevirtual 78, 3) := by decide +kernel
theorem dX9_fails_25 : decode cX9_fails 25 = .ok (.ireturn, 1) := by decide +kernel
theorem dX9_fails_26 : decode cX9_fails 26 = .ok (.aload_n 0, 1) := by decide +kernel
theorem dX9_fails_27 : decode cX9_fails 27 = .ok (.getfield 7, 3) := by decide +kernel
theorem dX9_fails_30 : decode cX9_fails 30 = .ok (.invokestatic 133, 3) := by decide +kernel
theorem dX9_fails_33 : decode cX9_fails 33 = .ok (.istore_n 3, 1) := by decide +kernel
theorem dX9_fails_34 : decode cX9_fails 34 = .ok (.lconst 0, 1) := by decide +kernel
theorem dX9_fails_35 : decode cX9_fails 35 = .ok (.lstore 4, 2) := by decide +kernel
theorem dX9_fails_37 : decode cX9_fails 37 = .ok (.lconst 1, 1) := by decide +kernel
theorem dX9_fails_38 : decode cX9_fails 38 = .ok (.lstore 6, 2) := by decide +kernel
theorem dX9_fails_40 : decode cX9_fails 40 = .ok (.iconst 0, 1) := by decide +kernel
theorem dX9_fails_41 : decode cX9_fails 41 = .ok (.istore 8, 2) := by decide +kernel
theorem dX9_fails_43 : decode cX9_fails 43 = .ok (.iload 8, 2) := by decide +kernel
theorem dX9_fails_45 : decode cX9_fails 45 = .ok (.aload_n 0, 1) := by decide +kernel
theorem dX9_fails_46 : decode cX9_fails 46 = .ok (.invokevirtual 55, 3) := by decide +kernel
theorem dX9_fails_49 : decode cX9_fails 49 = .ok (.if_icmp .ge 30, 3) := by decide +kernel
theorem dX9_fails_52 : decode cX9_fails 52 = .ok (.lload 6, 2) := by decide +kernel
theorem dX9_fails_54 : decode cX9_fails 54 = .ok (.iload_n 3, 1) := by decide +kernel
theorem dX9_fails_55 : decode cX9_fails 55 = .ok (.iload 8, 2) := by decide +kernel
theorem dX9_fails_57 : decode cX9_fails 57 = .ok (.invokestatic 114, 3) := by decide +kernel
theorem dX9_fails_60 : decode cX9_fails 60 = .ok (.ifCond .eq 9, 3) := by decide +kernel
theorem dX9_fails_63 : decode cX9_fails 63 = .ok (.ldc2_w 210, 3) := by decide +kernel
theorem dX9_fails_66 : decode cX9_fails 66 = .ok (.goto 4, 3) := by decide +kernel
theorem dX9_fails_69 : decode cX9_fails 69 = .ok (.lconst 1, 1) := by decide +kernel
theorem dX9_fails_70 : decode cX9_fails 70 = .ok (.lmul, 1) := by decide +kernel
theorem dX9_fails_71 : decode cX9_fails 71 = .ok (.lstore 6, 2) := by decide +kernel
theorem dX9_fails_73 : decode cX9_fails 73 = .ok (.iinc 8 1, 3) := by decide +kernel
theorem dX9_fails_76 : decode cX9_fails 76 = .ok (.goto (-33), 3) := by decide +kernel
theorem dX9_fails_79 : decode cX9_fails 79 = .ok (.iconst 0, 1) := by decide +kernel
theorem dX9_fails_80 : decode cX9_fails 80 = .ok (.istore 8, 2) := by decide +kernel
theorem dX9_fails_82 : decode cX9_fails 82 = .ok (.iload 8, 2) := by decide +kernel
theorem dX9_fails_84 : decode cX9_fails 84 = .ok (.iconst 1, 1) := by decide +kernel
theorem dX9_fails_85 : decode cX9_fails 85 = .ok (.aload_n 0, 1) := by decide +kernel
theorem dX9_fails_86 : decode cX9_fails 86 = .ok (.invokevirtual 55, 3) := by decide +kernel
theorem dX9_fails_89 : decode cX9_fails 89 = .ok (.ishl, 1) := by decide +kernel
theorem dX9_fails_90 : decode cX9_fails 90 = .ok (.if_icmp .ge 107, 3) := by decide +kernel
theorem dX9_fails_93 : decode cX9_fails 93 = .ok (.iload 8, 2) := by decide +kernel
theorem dX9_fails_95 : decode cX9_fails 95 = .ok (.iload_n 3, 1) := by decide +kernel
theorem dX9_fails_96 : decode cX9_fails 96 = .ok (.iconst (-1), 1) := by decide +kernel
theorem dX9_fails_97 : decode cX9_fails 97 = .ok (.ixor, 1) := by decide +kernel
theorem dX9_fails_98 : decode cX9_fails 98 = .ok (.iand, 1) := by decide +kernel
theorem dX9_fails_99 : decode cX9_fails 99 = .ok (.ifCond .ne 7, 3) := by decide +kernel
theorem dX9_fails_102 : decode cX9_fails 102 = .ok (.lconst 1, 1) := by decide +kernel
theorem dX9_fails_103 : decode cX9_fails 103 = .ok (.goto 4, 3) := by decide +kernel
theorem dX9_fails_106 : decode cX9_fails 106 = .ok (.lconst 0, 1) := by decide +kernel
theorem dX9_fails_107 : decode cX9_fails 107 = .ok (.lstore 9, 2) := by decide +kernel
theorem dX9_fails_109 : decode cX9_fails 109 = .ok (.iconst 0, 1) := by decide +kernel
theorem dX9_fails_110 : decode cX9_fails 110 = .ok (.istore 11, 2) := by decide +kernel
theorem dX9_fails_112 : decode cX9_fails 112 = .ok (.iload 11, 2) := by decide +kernel
theorem dX9_fails_114 : decode cX9_fails 114 = .ok (.aload_n 0, 1) := by decide +kernel
theorem dX9_fails_115 : decode cX9_fails 115 = .ok (.invokevirtual 55, 3) := by decide +kernel
theorem dX9_fails_118 : decode cX9_fails 118 = .ok (.if_icmp .ge 47, 3) := by decide +kernel
theorem dX9_fails_121 : decode cX9_fails 121 = .ok (.lload 9, 2) := by decide +kernel
theorem dX9_fails_123 : decode cX9_fails 123 = .ok (.iload_n 3, 1) := by decide +kernel
theorem dX9_fails_124 : decode cX9_fails 124 = .ok (.iload 11, 2) := by decide +kernel
theorem dX9_fails_126 : decode cX9_fails 126 = .ok (.invokestatic 114, 3) := by decide +kernel
theorem dX9_fails_129 : decode cX9_fails 129 = .ok (.ifCond .ne 7, 3) := by decide +kernel
theorem dX9_fails_132 : decode cX9_fails 132 = .ok (.lconst 1, 1) := by decide +kernel
theorem dX9_fails_133 : decode cX9_fails 133 = .ok (.goto 23, 3) := by decide +kernel
theorem dX9_fails_136 : decode cX9_fails 136 = .ok (.iload 8, 2) := by decide +kernel
theorem dX9_fails_138 : decode cX9_fails 138 = .ok (.iload 11, 2) := by decide +kernel
theorem dX9_fails_140 : decode cX9_fails 140 = .ok (.invokestatic 114, 3) := by decide +kernel
theorem dX9_fails_143 : decode cX9_fails 143 = .ok (.ifCond .eq 11, 3) := by decide +kernel
theorem dX9_fails_146 : decode cX9_fails 146 = .ok (.bipush 10, 2) := by decide +kernel
theorem dX9_fails_148 : decode cX9_fails 148 = .ok (.iload_n 2, 1) := by decide +kernel
theorem dX9_fails_149 : decode cX9_fails 149 = .ok (.isub, 1) := by decide +kernel
theorem dX9_fails_150 : decode cX9_fails 150 = .ok (.i2l, 1) := by decide +kernel
theorem dX9_fails_151 : decode cX9_fails 151 = .ok (.goto 5, 3) := by decide +kernel
theorem dX9_fails_154 : decode cX9_fails 154 = .ok (.iload_n 2, 1) := by decide +kernel
theorem dX9_fails_155 : decode cX9_fails 155 = .ok (.i2l, 1) := by decide +kernel
theorem dX9_fails_156 : decode cX9_fails 156 = .ok (.lmul, 1) := by decide +kernel
theorem dX9_fails_157 : decode cX9_fails 157 = .ok (.lstore 9, 2) := by decide +kernel
theorem dX9_fails_159 : decode cX9_fails 159 = .ok (.iinc 11 1, 3) := by decide +kernel
theorem dX9_fails_162 : decode cX9_fails 162 = .ok (.goto (-50), 3) := by decide +kernel
theorem dX9_fails_165 : decode cX9_fails 165 = .ok (.lload 4, 2) := by decide +kernel
theorem dX9_fails_167 : decode cX9_fails 167 = .ok (.lload 9, 2) := by decide +kernel
theorem dX9_fails_169 : decode cX9_fails 169 = .ok (.aload_n 0, 1) := by decide +kernel
theorem dX9_fails_170 : decode cX9_fails 170 = .ok (.getfield 7, 3) := by decide +kernel
theorem dX9_fails_173 : decode cX9_fails 173 = .ok (.iload_n 1, 1) := by decide +kernel
theorem dX9_fails_174 : decode cX9_fails 174 = .ok (.iload 8, 2) := by decide +kernel
theorem dX9_fails_176 : decode cX9_fails 176 = .ok (.aload_n 0, 1) := by decide +kernel
theorem dX9_fails_177 : decode cX9_fails 177 = .ok (.invokevirtual 169, 3) := by decide +kernel
theorem dX9_fails_180 : decode cX9_fails 180 = .ok (.invokestatic 137, 3) := by decide +kernel
theorem dX9_fails_183 : decode cX9_fails 183 = .ok (.invokestatic 183, 3) := by decide +kernel
theorem dX9_fails_186 : decode cX9_fails 186 = .ok (.i2l, 1) := by decide +kernel
theorem dX9_fails_187 : decode cX9_fails 187 = .ok (.lmul, 1) := by decide +kernel
theorem dX9_fails_188 : decode cX9_fails 188 = .ok (.ladd, 1) := by decide +kernel
theorem dX9_fails_189 : decode cX9_fails 189 = .ok (.lstore 4, 2) := by decide +kernel
theorem dX9_fails_191 : decode cX9_fails 191 = .ok (.iinc 8 1, 3) := by decide +kernel
theorem dX9_fails_194 : decode cX9_fails 194 = .ok (.goto (-112), 3) := by decide +kernel
theorem dX9_fails_197 : decode cX9_fails 197 = .ok (.aload_n 0, 1) := by decide +kernel
theorem dX9_fails_198 : decode cX9_fails 198 = .ok (.lload 4, 2) := by decide +kernel
theorem dX9_fails_200 : decode cX9_fails 200 = .ok (.lload 6, 2) := by decide +kernel
theorem dX9_fails_202 : decode cX9_fails 202 = .ok (.invokevirtual 212, 3) := by decide +kernel
theorem dX9_fails_205 : decode cX9_fails 205 = .ok (.iconst 1, 1) := by decide +kernel
theorem dX9_fails_206 : decode cX9_fails 206 = .ok (.ireturn, 1) := by decide +kernel
theorem dX9_years_0 : decode cX9_years 0 = .ok (.iload_n 1, 1) := by decide +kernel
theorem dX9_years_1 : decode cX9_years 1 = .ok (.i2l, 1) := by decide +kernel
theorem dX9_years_2 : decode cX9_years 2 = .ok (.lconst 0, 1) := by decide +kernel
theorem dX9_years_3 : decode cX9_years 3 = .ok (.ldc2_w 216, 3) := by decide +kernel
theorem dX9_years_6 : decode cX9_years 6 = .ok (.invokestatic 59, 3) := by decide +kernel
theorem dX9_years_9 : decode cX9_years 9 = .ok (.ifCond .eq 15, 3) := by decide +kernel
theorem dX9_years_12 : decode cX9_years 12 = .ok (.iload_n 2, 1) := by decide +kernel
theorem dX9_years_13 : decode cX9_years 13 = .ok (.i2l, 1) := by decide +kernel
theorem dX9_years_14 : decode cX9_years 14 = .ok (.lconst 0, 1) := by decide +kernel
theorem dX9_years_15 : decode cX9_years 15 = .ok (.ldc2_w 218, 3) := by decide +kernel
theorem dX9_years_18 : decode cX9_years 18 = .ok (.invokestatic 59, 3) := by decide +kernel
theorem dX9_years_21 : decode cX9_years 21 = .ok (.ifCond .ne 10, 3) := by decide +kernel
theorem dX9_years_24 : decode cX9_years 24 = .ok (.aload_n 0, 1) := by decide +kernel
theorem dX9_years_25 : decode cX9_years 25 = .ok (.bipush (-2), 2) := by decide +kernel
theorem dX9_years_27 : decode cX9_years 27 = .ok (.invokevirtual 78, 3) := by decide +kernel
theorem dX9_years_30 : decode cX9_years 30 = .ok (.ireturn, 1) := by decide +kernel
theorem dX9_years_31 : decode cX9_years 31 = .ok (.iload_n 1, 1) := by decide +kernel
theorem dX9_years_32 : decode cX9_years 32 = .ok (.i2l, 1) := by decide +kernel
theorem dX9_years_33 : decode cX9_years 33 = .ok (.lstore_n 3, 1) := by decide +kernel
theorem dX9_years_34 : decode cX9_years 34 = .ok (.iconst 0, 1) := by decide +kernel
theorem dX9_years_35 : decode cX9_years 35 = .ok (.istore 5, 2) := by decide +kernel
theorem dX9_years_37 : decode cX9_years 37 = .ok (.iconst 0, 1) := by decide +kernel
theorem dX9_years_38 : decode cX9_years 38 = .ok (.istore 6, 2) := by decide +kernel
theorem dX9_years_40 : decode cX9_years 40 = .ok (.iload 6, 2) := by decide +kernel
theorem dX9_years_42 : decode cX9_years 42 = .ok (.iload_n 2, 1) := by decide +kernel
theorem dX9_years_43 : decode cX9_years 43 = .ok (.if_icmp .ge 68, 3) := by decide +kernel
theorem dX9_years_46 : decode cX9_years 46 = .ok (.lload_n 3, 1) := by decide +kernel
theorem dX9_years_47 : decode cX9_years 47 = .ok (.ldc2_w 220, 3) := by decide +kernel
theorem dX9_years_50 : decode cX9_years 50 = .ok (.lmul, 1) := by decide +kernel
theorem dX9_years_51 : decode cX9_years 51 = .ok (.ldc2_w 222, 3) := by decide +kernel
theorem dX9_years_54 : decode cX9_years 54 = .ok (.ladd, 1) := by decide +kernel
theorem dX9_years_55 : decode cX9_years 55 = .ok (.ldc2_w 224, 3) := by decide +kernel
theorem dX9_years_58 : decode cX9_years 58 = .ok (.lrem, 1) := by decide +kernel
theorem dX9_years_59 : decode cX9_years 59 = .ok (.lstore_n 3, 1) := by decide +kernel
theorem dX9_years_60 : decode cX9_years 60 = .ok (.iload 5, 2) := by decide +kernel
theorem dX9_years_62 : decode cX9_years 62 = .ok (.aload_n 0, 1) := by decide +kernel
theorem dX9_years_63 : decode cX9_years 63 = .ok (.getfield 7, 3) := by decide +kernel
theorem dX9_years_66 : decode cX9_years 66 = .ok (.lload_n 3, 1) := by decide +kernel
theorem dX9_years_67 : decode cX9_years 67 = .ok (.ldc2_w 226, 3) := by decide +kernel
theorem dX9_years_70 : decode cX9_years 70 = .ok (.ldiv, 1) := by decide +kernel
theorem dX9_years_71 : decode cX9_years 71 = .ok (.ldc2_w 228, 3) := by decide +kernel
theorem dX9_years_74 : decode cX9_years 74 = .ok (.lrem, 1) := by decide +kernel
theorem dX9_years_75 : decode cX9_years 75 = .ok (.l2i, 1) := by decide +kernel
theorem dX9_years_76 : decode cX9_years 76 = .ok (.aload_n 0, 1) := by decide +kernel
theorem dX9_years_77 : decode cX9_years 77 = .ok (.getfield 7, 3) := by decide +kernel
theorem dX9_years_80 : decode cX9_years 80 = .ok (.invokestatic 133, 3) := by decide +kernel
theorem dX9_years_83 : decode cX9_years 83 = .ok (.aload_n 0, 1) := by decide +kernel
theorem dX9_years_84 : decode cX9_years 84 = .ok (.getfield 7, 3) := by decide +kernel
theorem dX9_years_87 : decode cX9_years 87 = .ok (.bipush 13, 2) := by decide +kernel
theorem dX9_years_89 : decode cX9_years 89 = .ok (.iaload, 1) := by decide +kernel
theorem dX9_years_90 : decode cX9_years 90 = .ok (.iload 6, 2) := by decide +kernel
theorem dX9_years_92 : decode cX9_years 92 = .ok (.iadd, 1) := by decide +kernel
theorem dX9_years_93 : decode cX9_years 93 = .ok (.bipush 12, 2) := by decide +kernel
theorem dX9_years_95 : decode cX9_years 95 = .ok (.irem, 1) := by decide +kernel
theorem dX9_years_96 : decode cX9_years 96 = .ok (.invokestatic 137, 3) := by decide +kernel
theorem dX9_years_99 : decode cX9_years 99 = .ok (.invokestatic 183, 3) := by decide +kernel
theorem dX9_years_102 : decode cX9_years 102 = .ok (.iadd, 1) := by decide +kernel
theorem dX9_years_103 : decode cX9_years 103 = .ok (.istore 5, 2) := by decide +kernel
theorem dX9_years_105 : decode cX9_years 105 = .ok (.iinc 6 1, 3) := by decide +kernel
theorem dX9_years_108 : decode cX9_years 108 = .ok (.goto (-68), 3) := by decide +kernel
theorem dX9_years_111 : decode cX9_years 111 = .ok (.iload 5, 2) := by decide +kernel
theorem dX9_years_113 : decode cX9_years 113 = .ok (.ireturn, 1) := by decide +kernel
theorem dX9_type_0 : decode cX9_type 0 = .ok (.iload_n 1, 1) := by decide +kernel
theorem dX9_type_1 : decode cX9_type 1 = .ok (.i2l, 1) := by decide +kernel
theorem dX9_type_2 : decode cX9_type 2 = .ok (.lconst 0, 1) := by decide +kernel
theorem dX9_type_3 : decode cX9_type 3 = .ok (.ldc2_w 230, 3) := by decide +kernel
theorem dX9_type_6 : decode cX9_type 6 = .ok (.invokestatic 59, 3) := by decide +kernel
theorem dX9_type_9 : decode cX9_type 9 = .ok (.ifCond .ne 10, 3) := by decide +kernel
theorem dX9_type_12 : decode cX9_type 12 = .ok (.aload_n 0, 1) := by decide +kernel
theorem dX9_type_13 : decode cX9_type 13 = .ok (.bipush (-2), 2) := by decide +kernel
theorem dX9_type_15 : decode cX9_type 15 = .ok (.invokevirtual 78, 3) := by decide +kernel
theorem dX9_type_18 : decode cX9_type 18 = .ok (.ireturn, 1) := by decide +kernel
theorem dX9_type_19 : decode cX9_type 19 = .ok (.aload_n 0, 1) := by decide +kernel
theorem dX9_type_20 : decode cX9_type 20 = .ok (.getfield 232, 3) := by decide +kernel
theorem dX9_type_23 : decode cX9_type 23 = .ok (.sipush 150, 3) := by decide +kernel
theorem dX9_type_26 : decode cX9_type 26 = .ok (.if_icmp .ne 8, 3) := by decide +kernel
theorem dX9_type_29 : decode cX9_type 29 = .ok (.aload_n 0, 1) := by decide +kernel
theorem dX9_type_30 : decode cX9_type 30 = .ok (.invokevirtual 82, 3) := by decide +kernel
theorem dX9_type_33 : decode cX9_type 33 = .ok (.ireturn, 1) := by decide +kernel
theorem dX9_type_34 : decode cX9_type 34 = .ok (.aload_n 0, 1) := by decide +kernel
theorem dX9_type_35 : decode cX9_type 35 = .ok (.getfield 42, 3) := by decide +kernel
theorem dX9_type_38 : decode cX9_type 38 = .ok (.aload_n 0, 1) := by decide +kernel
theorem dX9_type_39 : decode cX9_type 39 = .ok (.getfield 232, 3) := by decide +kernel
theorem dX9_type_42 : decode cX9_type 42 = .ok (.iload_n 1, 1) := by decide +kernel
theorem dX9_type_43 : decode cX9_type 43 = .ok (.iastore, 1) := by decide +kernel
theorem dX9_type_44 : decode cX9_type 44 = .ok (.aload_n 0, 1) := by decide +kernel
theorem dX9_type_45 : decode cX9_type 45 = .ok (.dup, 1) := by decide +kernel
theorem dX9_type_46 : decode cX9_type 46 = .ok (.getfield 232, 3) := by decide +kernel
theorem dX9_type_49 : decode cX9_type 49 = .ok (.iconst 1, 1) := by decide +kernel
theorem dX9_type_50 : decode cX9_type 50 = .ok (.iadd, 1) := by decide +kernel
theorem dX9_type_51 : decode cX9_type 51 = .ok (.putfield 232, 3) := by decide +kernel
theorem dX9_type_54 : decode cX9_type 54 = .ok (.aload_n 0, 1) := by decide +kernel
theorem dX9_type_55 : decode cX9_type 55 = .ok (.getfield 232, 3) := by decide +kernel
theorem dX9_type_58 : decode cX9_type 58 = .ok (.ireturn, 1) := by decide +kernel
theorem dX9_clear_0 : decode cX9_clear 0 = .ok (.aload_n 0, 1) := by decide +kernel
theorem dX9_clear_1 : decode cX9_clear 1 = .ok (.getfield 232, 3) := by decide +kernel
theorem dX9_clear_4 : decode cX9_clear 4 = .ok (.istore_n 1, 1) := by decide +kernel
theorem dX9_clear_5 : decode cX9_clear 5 = .ok (.aload_n 0, 1) := by decide +kernel
theorem dX9_clear_6 : decode cX9_clear 6 = .ok (.iconst 0, 1) := by decide +kernel
theorem dX9_clear_7 : decode cX9_clear 7 = .ok (.putfield 232, 3) := by decide +kernel
theorem dX9_clear_10 : decode cX9_clear 10 = .ok (.iload_n 1, 1) := by decide +kernel
theorem dX9_clear_11 : decode cX9_clear 11 = .ok (.ireturn, 1) := by decide +kernel
theorem dX9_isSmall_0 : decode cX9_isSmall 0 = .ok (.iload_n 0, 1) := by decide +kernel
theorem dX9_isSmall_1 : decode cX9_isSmall 1 = .ok (.i2l, 1) := by decide +kernel
theorem dX9_isSmall_2 : decode cX9_isSmall 2 = .ok (.ldc2_w 236, 3) := by decide +kernel
theorem dX9_isSmall_5 : decode cX9_isSmall 5 = .ok (.ldc2_w 238, 3) := by decide +kernel
theorem dX9_isSmall_8 : decode cX9_isSmall 8 = .ok (.invokestatic 59, 3) := by decide +kernel
theorem dX9_isSmall_11 : decode cX9_isSmall 11 = .ok (.ireturn, 1) := by decide +kernel
theorem dX9_isFigure_0 : decode cX9_isFigure 0 = .ok (.iload_n 0, 1) := by decide +kernel
theorem dX9_isFigure_1 : decode cX9_isFigure 1 = .ok (.i2l, 1) := by decide +kernel
theorem dX9_isFigure_2 : decode cX9_isFigure 2 = .ok (.ldc2_w 240, 3) := by decide +kernel
theorem dX9_isFigure_5 : decode cX9_isFigure 5 = .ok (.ldc2_w 242, 3) := by decide +kernel
theorem dX9_isFigure_8 : decode cX9_isFigure 8 = .ok (.invokestatic 59, 3) := by decide +kernel
theorem dX9_isFigure_11 : decode cX9_isFigure 11 = .ok (.ireturn, 1) := by decide +kernel
theorem dX9_lookAt_0 : decode cX9_lookAt 0 = .ok (.aload_n 0, 1) := by decide +kernel
theorem dX9_lookAt_1 : decode cX9_lookAt 1 = .ok (.iload_n 1, 1) := by decide +kernel
theorem dX9_lookAt_2 : decode cX9_lookAt 2 = .ok (.putfield 244, 3) := by decide +kernel
theorem dX9_lookAt_5 : decode cX9_lookAt 5 = .ok (.aload_n 0, 1) := by decide +kernel
theorem dX9_lookAt_6 : decode cX9_lookAt 6 = .ok (.getfield 244, 3) := by decide +kernel
theorem dX9_lookAt_9 : decode cX9_lookAt 9 = .ok (.aload_n 0, 1) := by decide +kernel
theorem dX9_lookAt_10 : decode cX9_lookAt 10 = .ok (.getfield 232, 3) := by decide +kernel
theorem dX9_lookAt_13 : decode cX9_lookAt 13 = .ok (.if_icmp .ge 30, 3) := by decide +kernel
theorem dX9_lookAt_16 : decode cX9_lookAt 16 = .ok (.aload_n 0, 1) := by decide +kernel
theorem dX9_lookAt_17 : decode cX9_lookAt 17 = .ok (.getfield 42, 3) := by decide +kernel
theorem dX9_lookAt_20 : decode cX9_lookAt 20 = .ok (.aload_n 0, 1) := by decide +kernel
theorem dX9_lookAt_21 : decode cX9_lookAt 21 = .ok (.getfield 244, 3) := by decide +kernel
theorem dX9_lookAt_24 : decode cX9_lookAt 24 = .ok (.iaload, 1) := by decide +kernel
theorem dX9_lookAt_25 : decode cX9_lookAt 25 = .ok (.bipush 32, 2) := by decide +kernel
theorem dX9_lookAt_27 : decode cX9_lookAt 27 = .ok (.if_icmp .ne 16, 3) := by decide +kernel
theorem dX9_lookAt_30 : decode cX9_lookAt 30 = .ok (.aload_n 0, 1) := by decide +kernel
theorem dX9_lookAt_31 : decode cX9_lookAt 31 = .ok (.dup, 1) := by decide +kernel
theorem dX9_lookAt_32 : decode cX9_lookAt 32 = .ok (.getfield 244, 3) := by decide +kernel
theorem dX9_lookAt_35 : decode cX9_lookAt 35 = .ok (.iconst 1, 1) := by decide +kernel
theorem dX9_lookAt_36 : decode cX9_lookAt 36 = .ok (.iadd, 1) := by decide +kernel
theorem dX9_lookAt_37 : decode cX9_lookAt 37 = .ok (.putfield 244, 3) := by decide +kernel
theorem dX9_lookAt_40 : decode cX9_lookAt 40 = .ok (.goto (-35), 3) := by decide +kernel
theorem dX9_lookAt_43 : decode cX9_lookAt 43 = .ok (.aload_n 0, 1) := by decide +kernel
theorem dX9_lookAt_44 : decode cX9_lookAt 44 = .ok (.iconst 0, 1) := by decide +kernel
theorem dX9_lookAt_45 : decode cX9_lookAt 45 = .ok (.putfield 247, 3) := by decide +kernel
theorem dX9_lookAt_48 : decode cX9_lookAt 48 = .ok (.aload_n 0, 1) := by decide +kernel
theorem dX9_lookAt_49 : decode cX9_lookAt 49 = .ok (.iconst 0, 1) := by decide +kernel
theorem dX9_lookAt_50 : decode cX9_lookAt 50 = .ok (.putfield 250, 3) := by decide +kernel
theorem dX9_lookAt_53 : decode cX9_lookAt 53 = .ok (.aload_n 0, 1) := by decide +kernel
theorem dX9_lookAt_54 : decode cX9_lookAt 54 = .ok (.iconst 0, 1) := by decide +kernel
theorem dX9_lookAt_55 : decode cX9_lookAt 55 = .ok (.putfield 253, 3) := by decide +kernel
theorem dX9_lookAt_58 : decode cX9_lookAt 58 = .ok (.aload_n 0, 1) := by decide +kernel
theorem dX9_lookAt_59 : decode cX9_lookAt 59 = .ok (.getfield 244, 3) := by decide +kernel
theorem dX9_lookAt_62 : decode cX9_lookAt 62 = .ok (.aload_n 0, 1) := by decide +kernel
theorem dX9_lookAt_63 : decode cX9_lookAt 63 = .ok (.getfield 232, 3) := by decide +kernel
theorem dX9_lookAt_66 : decode cX9_lookAt 66 = .ok (.if_icmp .ne 4, 3) := by decide +kernel
theorem dX9_lookAt_69 : decode cX9_lookAt 69 = .ok (.return_, 1) := by decide +kernel
theorem dX9_lookAt_70 : decode cX9_lookAt 70 = .ok (.aload_n 0, 1) := by decide +kernel
theorem dX9_lookAt_71 : decode cX9_lookAt 71 = .ok (.getfield 42, 3) := by decide +kernel
theorem dX9_lookAt_74 : decode cX9_lookAt 74 = .ok (.aload_n 0, 1) := by decide +kernel
theorem dX9_lookAt_75 : decode cX9_lookAt 75 = .ok (.getfield 244, 3) := by decide +kernel
theorem dX9_lookAt_78 : decode cX9_lookAt 78 = .ok (.iaload, 1) := by decide +kernel
theorem dX9_lookAt_79 : decode cX9_lookAt 79 = .ok (.istore_n 2, 1) := by decide +kernel
theorem dX9_lookAt_80 : decode cX9_lookAt 80 = .ok (.aload_n 0, 1) := by decide +kernel
theorem dX9_lookAt_81 : decode cX9_lookAt 81 = .ok (.iload_n 2, 1) := by decide +kernel
theorem dX9_lookAt_82 : decode cX9_lookAt 82 = .ok (.invokestatic 256, 3) := by decide +kernel
theorem dX9_lookAt_85 : decode cX9_lookAt 85 = .ok (.ifCond .eq 7, 3) := by decide +kernel
theorem dX9_lookAt_88 : decode cX9_lookAt 88 = .ok (.iconst 1, 1) := by decide +kernel
theorem dX9_lookAt_89 : decode cX9_lookAt 89 = .ok (.goto 25, 3) := by decide +kernel
theorem dX9_lookAt_92 : decode cX9_lookAt 92 = .ok (.iload_n 2, 1) := by decide +kernel
theorem dX9_lookAt_93 : decode cX9_lookAt 93 = .ok (.invokestatic 259, 3) := by decide +kernel
theorem dX9_lookAt_96 : decode cX9_lookAt 96 = .ok (.ifCond .eq 7, 3) := by decide +kernel
theorem dX9_lookAt_99 : decode cX9_lookAt 99 = .ok (.iconst 2, 1) := by decide +kernel
theorem dX9_lookAt_100 : decode cX9_lookAt 100 = .ok (.goto 14, 3) := by decide +kernel
theorem dX9_lookAt_103 : decode cX9_lookAt 103 = .ok (.iload_n 2, 1) := by decide +kernel
theorem dX9_lookAt_104 : decode cX9_lookAt 104 = .ok (.bipush 59, 2) := by decide +kernel
theorem dX9_lookAt_106 : decode cX9_lookAt 106 = .ok (.if_icmp .ne 7, 3) := by decide +kernel
theorem dX9_lookAt_109 : decode cX9_lookAt 109 = .ok (.iconst 3, 1) := by decide +kernel
theorem dX9_lookAt_110 : decode cX9_lookAt 110 = .ok (.goto 4, 3) := by decide +kernel
theorem dX9_lookAt_113 : decode cX9_lookAt 113 = .ok (.iconst 4, 1) := by decide +kernel
theorem dX9_lookAt_114 : decode cX9_lookAt 114 = .ok (.putfield 250, 3) := by decide +kernel
theorem dX9_lookAt_117 : decode cX9_lookAt 117 = .ok (.aload_n 0, 1) := by decide +kernel
theorem dX9_lookAt_118 : decode cX9_lookAt 118 = .ok (.iconst 1, 1) := by decide +kernel
theorem dX9_lookAt_119 : decode cX9_lookAt 119 = .ok (.putfield 247, 3) := by decide +kernel
theorem dX9_lookAt_122 : decode cX9_lookAt 122 = .ok (.aload_n 0, 1) := by decide +kernel
theorem dX9_lookAt_123 : decode cX9_lookAt 123 = .ok (.getfield 250, 3) := by decide +kernel
theorem dX9_lookAt_126 : decode cX9_lookAt 126 = .ok (.iconst 3, 1) := by decide +kernel
theorem dX9_lookAt_127 : decode cX9_lookAt 127 = .ok (.if_icmp .ge 7, 3) := by decide +kernel
theorem dX9_lookAt_130 : decode cX9_lookAt 130 = .ok (.iconst 1, 1) := by decide +kernel
theorem dX9_lookAt_131 : decode cX9_lookAt 131 = .ok (.goto 4, 3) := by decide +kernel
theorem dX9_lookAt_134 : decode cX9_lookAt 134 = .ok (.iconst 0, 1) := by decide +kernel
theorem dX9_lookAt_135 : decode cX9_lookAt 135 = .ok (.istore_n 3, 1) := by decide +kernel
theorem dX9_lookAt_136 : decode cX9_lookAt 136 = .ok (.iload_n 3, 1) := by decide +kernel
theorem dX9_lookAt_137 : decode cX9_lookAt 137 = .ok (.ifCond .eq 78, 3) := by decide +kernel
theorem dX9_lookAt_140 : decode cX9_lookAt 140 = .ok (.aload_n 0, 1) := by decide +kernel
theorem dX9_lookAt_141 : decode cX9_lookAt 141 = .ok (.getfield 244, 3) := by decide +kernel
theorem dX9_lookAt_144 : decode cX9_lookAt 144 = .ok (.aload_n 0, 1) := by decide +kernel
theorem dX9_lookAt_145 : decode cX9_lookAt 145 = .ok (.getfield 247, 3) := by decide +kernel
theorem dX9_lookAt_148 : decode cX9_lookAt 148 = .ok (.iadd, 1) := by decide +kernel
theorem dX9_lookAt_149 : decode cX9_lookAt 149 = .ok (.aload_n 0, 1) := by decide +kernel
theorem dX9_lookAt_150 : decode cX9_lookAt 150 = .ok (.getfield 232, 3) := by decide +kernel
theorem dX9_lookAt_153 : decode cX9_lookAt 153 = .ok (.if_icmp .ge 62, 3) := by decide +kernel
theorem dX9_lookAt_156 : decode cX9_lookAt 156 = .ok (.aload_n 0, 1) := by decide +kernel
theorem dX9_lookAt_157 : decode cX9_lookAt 157 = .ok (.getfield 42, 3) := by decide +kernel
theorem dX9_lookAt_160 : decode cX9_lookAt 160 = .ok (.aload_n 0, 1) := by decide +kernel
theorem dX9_lookAt_161 : decode cX9_lookAt 161 = .ok (.getfield 244, 3) := by decide +kernel
theorem dX9_lookAt_164 : decode cX9_lookAt 164 = .ok (.aload_n 0, 1) := by decide +kernel
theorem dX9_lookAt_165 : decode cX9_lookAt 165 = .ok (.getfield 247, 3) := by decide +kernel
theorem dX9_lookAt_168 : decode cX9_lookAt 168 = .ok (.iadd, 1) := by decide +kernel
theorem dX9_lookAt_169 : decode cX9_lookAt 169 = .ok (.iaload, 1) := by decide +kernel
theorem dX9_lookAt_170 : decode cX9_lookAt 170 = .ok (.istore 4, 2) := by decide +kernel
theorem dX9_lookAt_172 : decode cX9_lookAt 172 = .ok (.aload_n 0, 1) := by decide +kernel
theorem dX9_lookAt_173 : decode cX9_lookAt 173 = .ok (.getfield 250, 3) := by decide +kernel
theorem dX9_lookAt_176 : decode cX9_lookAt 176 = .ok (.iconst 1, 1) := by decide +kernel
theorem dX9_lookAt_177 : decode cX9_lookAt 177 = .ok (.if_icmp .ne 11, 3) := by decide +kernel
theorem dX9_lookAt_180 : decode cX9_lookAt 180 = .ok (.iload 4, 2) := by decide +kernel
theorem dX9_lookAt_182 : decode cX9_lookAt 182 = .ok (.invokestatic 256, 3) := by decide +kernel
theorem dX9_lookAt_185 : decode cX9_lookAt 185 = .ok (.goto 8, 3) := by decide +kernel
theorem dX9_lookAt_188 : decode cX9_lookAt 188 = .ok (.iload 4, 2) := by decide +kernel
theorem dX9_lookAt_190 : decode cX9_lookAt 190 = .ok (.invokestatic 259, 3) := by decide +kernel
theorem dX9_lookAt_193 : decode cX9_lookAt 193 = .ok (.istore_n 3, 1) := by decide +kernel
theorem dX9_lookAt_194 : decode cX9_lookAt 194 = .ok (.aload_n 0, 1) := by decide +kernel
theorem dX9_lookAt_195 : decode cX9_lookAt 195 = .ok (.dup, 1) := by decide +kernel
theorem dX9_lookAt_196 : decode cX9_lookAt 196 = .ok (.getfield 247, 3) := by decide +kernel
theorem dX9_lookAt_199 : decode cX9_lookAt 199 = .ok (.iload_n 3, 1) := by decide +kernel
theorem dX9_lookAt_200 : decode cX9_lookAt 200 = .ok (.ifCond .eq 7, 3) := by decide +kernel
theorem dX9_lookAt_203 : decode cX9_lookAt 203 = .ok (.iconst 1, 1) := by decide +kernel
theorem dX9_lookAt_204 : decode cX9_lookAt 204 = .ok (.goto 4, 3) := by decide +kernel
theorem dX9_lookAt_207 : decode cX9_lookAt 207 = .ok (.iconst 0, 1) := by decide +kernel
theorem dX9_lookAt_208 : decode cX9_lookAt 208 = .ok (.iadd, 1) := by decide +kernel
theorem dX9_lookAt_209 : decode cX9_lookAt 209 = .ok (.putfield 247, 3) := by decide +kernel
theorem dX9_lookAt_212 : decode cX9_lookAt 212 = .ok (.goto (-76), 3) := by decide +kernel
theorem dX9_lookAt_215 : decode cX9_lookAt 215 = .ok (.iconst 0, 1) := by decide +kernel
theorem dX9_lookAt_216 : decode cX9_lookAt 216 = .ok (.istore 4, 2) := by decide +kernel
theorem dX9_lookAt_218 : decode cX9_lookAt 218 = .ok (.iload 4, 2) := by decide +kernel
theorem dX9_lookAt_220 : decode cX9_lookAt 220 = .ok (.aload_n 0, 1) := by decide +kernel
theorem dX9_lookAt_221 : decode cX9_lookAt 221 = .ok (.getfield 247, 3) := by decide +kernel
theorem dX9_lookAt_224 : decode cX9_lookAt 224 = .ok (.if_icmp .ge 50, 3) := by decide +kernel
theorem dX9_lookAt_227 : decode cX9_lookAt 227 = .ok (.iload 4, 2) := by decide +kernel
theorem dX9_lookAt_229 : decode cX9_lookAt 229 = .ok (.iconst 2, 1) := by decide +kernel
theorem dX9_lookAt_230 : decode cX9_lookAt 230 = .ok (.if_icmp .ge 44, 3) := by decide +kernel
theorem dX9_lookAt_233 : decode cX9_lookAt 233 = .ok (.aload_n 0, 1) := by decide +kernel
theorem dX9_lookAt_234 : decode cX9_lookAt 234 = .ok (.getfield 250, 3) := by decide +kernel
theorem dX9_lookAt_237 : decode cX9_lookAt 237 = .ok (.iconst 2, 1) := by decide +kernel
theorem dX9_lookAt_238 : decode cX9_lookAt 238 = .ok (.if_icmp .ne 36, 3) := by decide +kernel
theorem dX9_lookAt_241 : decode cX9_lookAt 241 = .ok (.aload_n 0, 1) := by decide +kernel
theorem dX9_lookAt_242 : decode cX9_lookAt 242 = .ok (.bipush 10, 2) := by decide +kernel
theorem dX9_lookAt_244 : decode cX9_lookAt 244 = .ok (.aload_n 0, 1) := by decide +kernel
theorem dX9_lookAt_245 : decode cX9_lookAt 245 = .ok (.getfield 253, 3) := by decide +kernel
theorem dX9_lookAt_248 : decode cX9_lookAt 248 = .ok (.imul, 1) := by decide +kernel
theorem dX9_lookAt_249 : decode cX9_lookAt 249 = .ok (.aload_n 0, 1) := by decide +kernel
theorem dX9_lookAt_250 : decode cX9_lookAt 250 = .ok (.getfield 42, 3) := by decide +kernel
theorem dX9_lookAt_253 : decode cX9_lookAt 253 = .ok (.aload_n 0, 1) := by decide +kernel
theorem dX9_lookAt_254 : decode cX9_lookAt 254 = .ok (.getfield 244, 3) := by decide +kernel
theorem dX9_lookAt_257 : decode cX9_lookAt 257 = .ok (.iload 4, 2) := by decide +kernel
theorem dX9_lookAt_259 : decode cX9_lookAt 259 = .ok (.iadd, 1) := by decide +kernel
theorem dX9_lookAt_260 : decode cX9_lookAt 260 = .ok (.iaload, 1) := by decide +kernel
theorem dX9_lookAt_261 : decode cX9_lookAt 261 = .ok (.iadd, 1) := by decide +kernel
theorem dX9_lookAt_262 : decode cX9_lookAt 262 = .ok (.bipush 48, 2) := by decide +kernel
theorem dX9_lookAt_264 : decode cX9_lookAt 264 = .ok (.isub, 1) := by decide +kernel
theorem dX9_lookAt_265 : decode cX9_lookAt 265 = .ok (.putfield 253, 3) := by decide +kernel
theorem dX9_lookAt_268 : decode cX9_lookAt 268 = .ok (.iinc 4 1, 3) := by decide +kernel
theorem dX9_lookAt_271 : decode cX9_lookAt 271 = .ok (.goto (-53), 3) := by decide +kernel
theorem dX9_lookAt_274 : decode cX9_lookAt 274 = .ok (.aload_n 0, 1) := by decide +kernel
theorem dX9_lookAt_275 : decode cX9_lookAt 275 = .ok (.aload_n 0, 1) := by decide +kernel
theorem dX9_lookAt_276 : decode cX9_lookAt 276 = .ok (.getfield 250, 3) := by decide +kernel
theorem dX9_lookAt_279 : decode cX9_lookAt 279 = .ok (.iconst 2, 1) := by decide +kernel
theorem dX9_lookAt_280 : decode cX9_lookAt 280 = .ok (.if_icmp .ne 15, 3) := by decide +kernel
theorem dX9_lookAt_283 : decode cX9_lookAt 283 = .ok (.aload_n 0, 1) := by decide +kernel
theorem dX9_lookAt_284 : decode cX9_lookAt 284 = .ok (.getfield 247, 3) := by decide +kernel
theorem dX9_lookAt_287 : decode cX9_lookAt 287 = .ok (.iconst 2, 1) := by decide +kernel
theorem dX9_lookAt_288 : decode cX9_lookAt 288 = .ok (.if_icmp .le 7, 3) := by decide +kernel
theorem dX9_lookAt_291 : decode cX9_lookAt 291 = .ok (.iconst 4, 1) := by decide +kernel
theorem dX9_lookAt_292 : decode cX9_lookAt 292 = .ok (.goto 7, 3) := by decide +kernel
theorem dX9_lookAt_295 : decode cX9_lookAt 295 = .ok (.aload_n 0, 1) := by decide +kernel
theorem dX9_lookAt_296 : decode cX9_lookAt 296 = .ok (.getfield 250, 3) := by decide +kernel
theorem dX9_lookAt_299 : decode cX9_lookAt 299 = .ok (.putfield 250, 3) := by decide +kernel
theorem dX9_lookAt_302 : decode cX9_lookAt 302 = .ok (.return_, 1) := by decide +kernel
theorem dX9_goBehind_0 : decode cX9_goBehind 0 = .ok (.aload_n 0, 1) := by decide +kernel
theorem dX9_goBehind_1 : decode cX9_goBehind 1 = .ok (.aload_n 0, 1) := by decide +kernel
theorem dX9_goBehind_2 : decode cX9_goBehind 2 = .ok (.getfield 244, 3) := by decide +kernel
theorem dX9_goBehind_5 : decode cX9_goBehind 5 = .ok (.aload_n 0, 1) := by decide +kernel
theorem dX9_goBehind_6 : decode cX9_goBehind 6 = .ok (.getfield 247, 3) := by decide +kernel
theorem dX9_goBehind_9 : decode cX9_goBehind 9 = .ok (.iadd, 1) := by decide +kernel
theorem dX9_goBehind_10 : decode cX9_goBehind 10 = .ok (.invokevirtual 262, 3) := by decide +kernel
theorem dX9_goBehind_13 : decode cX9_goBehind 13 = .ok (.return_, 1) := by decide +kernel
theorem dX9_spells_0 : decode cX9_spells 0 = .ok (.aload_n 0, 1) := by decide +kernel
theorem dX9_spells_1 : decode cX9_spells 1 = .ok (.getfield 250, 3) := by decide +kernel
theorem dX9_spells_4 : decode cX9_spells 4 = .ok (.iconst 1, 1) := by decide +kernel
theorem dX9_spells_5 : decode cX9_spells 5 = .ok (.if_icmp .ne 15, 3) := by decide +kernel
theorem dX9_spells_8 : decode cX9_spells 8 = .ok (.aload_n 0, 1) := by decide +kernel
theorem dX9_spells_9 : decode cX9_spells 9 = .ok (.getfield 247, 3) := by decide +kernel
theorem dX9_spells_12 : decode cX9_spells 12 = .ok (.iload_n 1, 1) := by decide +kernel
theorem dX9_spells_13 : decode cX9_spells 13 = .ok (.if_icmp .ne 7, 3) := by decide +kernel
theorem dX9_spells_16 : decode cX9_spells 16 = .ok (.iconst 1, 1) := by decide +kernel
theorem dX9_spells_17 : decode cX9_spells 17 = .ok (.goto 4, 3) := by decide +kernel
theorem dX9_spells_20 : decode cX9_spells 20 = .ok (.iconst 0, 1) := by decide +kernel
theorem dX9_spells_21 : decode cX9_spells 21 = .ok (.istore 8, 2) := by decide +kernel
theorem dX9_spells_23 : decode cX9_spells 23 = .ok (.iconst 0, 1) := by decide +kernel
theorem dX9_spells_24 : decode cX9_spells 24 = .ok (.istore 9, 2) := by decide +kernel
theorem dX9_spells_26 : decode cX9_spells 26 = .ok (.iload 9, 2) := by decide +kernel
theorem dX9_spells_28 : decode cX9_spells 28 = .ok (.iload_n 1, 1) := by decide +kernel
theorem dX9_spells_29 : decode cX9_spells 29 = .ok (.if_icmp .ge 90, 3) := by decide +kernel
theorem dX9_spells_32 : decode cX9_spells 32 = .ok (.iload 8, 2) := by decide +kernel
theorem dX9_spells_34 : decode cX9_spells 34 = .ok (.ifCond .eq 85, 3) := by decide +kernel
theorem dX9_spells_37 : decode cX9_spells 37 = .ok (.aload_n 0, 1) := by decide +kernel
theorem dX9_spells_38 : decode cX9_spells 38 = .ok (.getfield 42, 3) := by decide +kernel
theorem dX9_spells_41 : decode cX9_spells 41 = .ok (.aload_n 0, 1) := by decide +kernel
theorem dX9_spells_42 : decode cX9_spells 42 = .ok (.getfield 244, 3) := by decide +kernel
theorem dX9_spells_45 : decode cX9_spells 45 = .ok (.iload 9, 2) := by decide +kernel
theorem dX9_spells_47 : decode cX9_spells 47 = .ok (.iadd, 1) := by decide +kernel
theorem dX9_spells_48 : decode cX9_spells 48 = .ok (.iaload, 1) := by decide +kernel
theorem dX9_spells_49 : decode cX9_spells 49 = .ok (.iload 9, 2) := by decide +kernel
theorem dX9_spells_51 : decode cX9_spells 51 = .ok (.ifCond .ne 7, 3) := by decide +kernel
theorem dX9_spells_54 : decode cX9_spells 54 = .ok (.iload_n 2, 1) := by decide +kernel
theorem dX9_spells_55 : decode cX9_spells 55 = .ok (.goto 48, 3) := by decide +kernel
theorem dX9_spells_58 : decode cX9_spells 58 = .ok (.iload 9, 2) := by decide +kernel
theorem dX9_spells_60 : decode cX9_spells 60 = .ok (.iconst 1, 1) := by decide +kernel
theorem dX9_spells_61 : decode cX9_spells 61 = .ok (.if_icmp .ne 7, 3) := by decide +kernel
theorem dX9_spells_64 : decode cX9_spells 64 = .ok (.iload_n 3, 1) := by decide +kernel
theorem dX9_spells_65 : decode cX9_spells 65 = .ok (.goto 38, 3) := by decide +kernel
theorem dX9_spells_68 : decode cX9_spells 68 = .ok (.iload 9, 2) := by decide +kernel
theorem dX9_spells_70 : decode cX9_spells 70 = .ok (.iconst 2, 1) := by decide +kernel
theorem dX9_spells_71 : decode cX9_spells 71 = .ok (.if_icmp .ne 8, 3) := by decide +kernel
theorem dX9_spells_74 : decode cX9_spells 74 = .ok (.iload 4, 2) := by decide +kernel
theorem dX9_spells_76 : decode cX9_spells 76 = .ok (.goto 27, 3) := by decide +kernel
theorem dX9_spells_79 : decode cX9_spells 79 = .ok (.iload 9, 2) := by decide +kernel
theorem dX9_spells_81 : decode cX9_spells 81 = .ok (.iconst 3, 1) := by decide +kernel
theorem dX9_spells_82 : decode cX9_spells 82 = .ok (.if_icmp .ne 8, 3) := by decide +kernel
theorem dX9_spells_85 : decode cX9_spells 85 = .ok (.iload 5, 2) := by decide +kernel
theorem dX9_spells_87 : decode cX9_spells 87 = .ok (.goto 16, 3) := by decide +kernel
theorem dX9_spells_90 : decode cX9_spells 90 = .ok (.iload 9, 2) := by decide +kernel
theorem dX9_spells_92 : decode cX9_spells 92 = .ok (.iconst 4, 1) := by decide +kernel
theorem dX9_spells_93 : decode cX9_spells 93 = .ok (.if_icmp .ne 8, 3) := by decide +kernel
theorem dX9_spells_96 : decode cX9_spells 96 = .ok (.iload 6, 2) := by decide +kernel
theorem dX9_spells_98 : decode cX9_spells 98 = .ok (.goto 5, 3) := by decide +kernel
theorem dX9_spells_101 : decode cX9_spells 101 = .ok (.iload 7, 2) := by decide +kernel
theorem dX9_spells_103 : decode cX9_spells 103 = .ok (.if_icmp .ne 7, 3) := by decide +kernel
theorem dX9_spells_106 : decode cX9_spells 106 = .ok (.iconst 1, 1) := by decide +kernel
theorem dX9_spells_107 : decode cX9_spells 107 = .ok (.goto 4, 3) := by decide +kernel
theorem dX9_spells_110 : decode cX9_spells 110 = .ok (.iconst 0, 1) := by decide +kernel
theorem dX9_spells_111 : decode cX9_spells 111 = .ok (.istore 8, 2) := by decide +kernel
theorem dX9_spells_113 : decode cX9_spells 113 = .ok (.iinc 9 1, 3) := by decide +kernel
theorem dX9_spells_116 : decode cX9_spells 116 = .ok (.goto (-90), 3) := by decide +kernel
theorem dX9_spells_119 : decode cX9_spells 119 = .ok (.iload 8, 2) := by decide +kernel
theorem dX9_spells_121 : decode cX9_spells 121 = .ok (.ireturn, 1) := by decide +kernel
theorem dX9_takes_0 : decode cX9_takes 0 = .ok (.aload_n 0, 1) := by decide +kernel
theorem dX9_takes_1 : decode cX9_takes 1 = .ok (.getfield 250, 3) := by decide +kernel
theorem dX9_takes_4 : decode cX9_takes 4 = .ok (.iconst 2, 1) := by decide +kernel
theorem dX9_takes_5 : decode cX9_takes 5 = .ok (.if_icmp .ne 18, 3) := by decide +kernel
theorem dX9_takes_8 : decode cX9_takes 8 = .ok (.aload_n 0, 1) := by decide +kernel
theorem dX9_takes_9 : decode cX9_takes 9 = .ok (.getfield 253, 3) := by decide +kernel
theorem dX9_takes_12 : decode cX9_takes 12 = .ok (.i2l, 1) := by decide +kernel
theorem dX9_takes_13 : decode cX9_takes 13 = .ok (.iload_n 2, 1) := by decide +kernel
theorem dX9_takes_14 : decode cX9_takes 14 = .ok (.i2l, 1) := by decide +kernel
theorem dX9_takes_15 : decode cX9_takes 15 = .ok (.iload_n 3, 1) := by decide +kernel
theorem dX9_takes_16 : decode cX9_takes 16 = .ok (.i2l, 1) := by decide +kernel
theorem dX9_takes_17 : decode cX9_takes 17 = .ok (.invokestatic 59, 3) := by decide +kernel
theorem dX9_takes_20 : decode cX9_takes 20 = .ok (.ifCond .ne 5, 3) := by decide +kernel
theorem dX9_takes_23 : decode cX9_takes 23 = .ok (.iconst 0, 1) := by decide +kernel
theorem dX9_takes_24 : decode cX9_takes 24 = .ok (.ireturn, 1) := by decide +kernel
theorem dX9_takes_25 : decode cX9_takes 25 = .ok (.aload_n 0, 1) := by decide +kernel
theorem dX9_takes_26 : decode cX9_takes 26 = .ok (.getfield 48, 3) := by decide +kernel
theorem dX9_takes_29 : decode cX9_takes 29 = .ok (.iload_n 1, 1) := by decide +kernel
theorem dX9_takes_30 : decode cX9_takes 30 = .ok (.aload_n 0, 1) := by decide +kernel
theorem dX9_takes_31 : decode cX9_takes 31 = .ok (.getfield 253, 3) := by decide +kernel
theorem dX9_takes_34 : decode cX9_takes 34 = .ok (.iastore, 1) := by decide +kernel
theorem dX9_takes_35 : decode cX9_takes 35 = .ok (.aload_n 0, 1) := by decide +kernel
theorem dX9_takes_36 : decode cX9_takes 36 = .ok (.invokevirtual 266, 3) := by decide +kernel
theorem dX9_takes_39 : decode cX9_takes 39 = .ok (.iconst 1, 1) := by decide +kernel
theorem dX9_takes_40 : decode cX9_takes 40 = .ok (.ireturn, 1) := by decide +kernel
theorem dX9_takesShow_0 : decode cX9_takesShow 0 = .ok (.aload_n 0, 1) := by decide +kernel
theorem dX9_takesShow_1 : decode cX9_takesShow 1 = .ok (.getfield 45, 3) := by decide +kernel
theorem dX9_takesShow_4 : decode cX9_takesShow 4 = .ok (.iconst 0, 1) := by decide +kernel
theorem dX9_takesShow_5 : decode cX9_takesShow 5 = .ok (.iaload, 1) := by decide +kernel
theorem dX9_takesShow_6 : decode cX9_takesShow 6 = .ok (.iconst 5, 1) := by decide +kernel
theorem dX9_takesShow_7 : decode cX9_takesShow 7 = .ok (.if_icmp .ne 5, 3) := by decide +kernel
theorem dX9_takesShow_10 : decode cX9_takesShow 10 = .ok (.iconst 0, 1) := by decide +kernel
theorem dX9_takesShow_11 : decode cX9_takesShow 11 = .ok (.ireturn, 1) := by decide +kernel
theorem dX9_takesShow_12 : decode cX9_takesShow 12 = .ok (.aload_n 0, 1) := by decide +kernel
theorem dX9_takesShow_13 : decode cX9_takesShow 13 = .ok (.invokevirtual 266, 3) := by decide +kernel
theorem dX9_takesShow_16 : decode cX9_takesShow 16 = .ok (.aload_n 0, 1) := by decide +kernel
theorem dX9_takesShow_17 : decode cX9_takesShow 17 = .ok (.iconst 0, 1) := by decide +kernel
theorem dX9_takesShow_18 : decode cX9_takesShow 18 = .ok (.iconst 0, 1) := by decide +kernel
theorem dX9_takesShow_19 : decode cX9_takesShow 19 = .ok (.iconst 5, 1) := by decide +kernel
theorem dX9_takesShow_20 : decode cX9_takesShow 20 = .ok (.invokevirtual 269, 3) := by decide +kernel
theorem dX9_takesShow_23 : decode cX9_takesShow 23 = .ok (.ifCond .eq 25, 3) := by decide +kernel
theorem dX9_takesShow_26 : decode cX9_takesShow 26 = .ok (.aload_n 0, 1) := by decide +kernel
theorem dX9_takesShow_27 : decode cX9_takesShow 27 = .ok (.iconst 1, 1) := by decide +kernel
theorem dX9_takesShow_28 : decode cX9_takesShow 28 = .ok (.iconst 0, 1) := by decide +kernel
theorem dX9_takesShow_29 : decode cX9_takesShow 29 = .ok (.bipush 29, 2) := by decide +kernel
theorem dX9_takesShow_31 : decode cX9_takesShow 31 = .ok (.invokevirtual 269, 3) := by decide +kernel
theorem dX9_takesShow_34 : decode cX9_takesShow 34 = .ok (.ifCond .eq 14, 3) := by decide +kernel
theorem dX9_takesShow_37 : decode cX9_takesShow 37 = .ok (.aload_n 0, 1) := by decide +kernel
theorem dX9_takesShow_38 : decode cX9_takesShow 38 = .ok (.iconst 2, 1) := by decide +kernel
theorem dX9_takesShow_39 : decode cX9_takesShow 39 = .ok (.iconst 1, 1) := by decide +kernel
theorem dX9_takesShow_40 : decode cX9_takesShow 40 = .ok (.bipush 9, 2) := by decide +kernel
theorem dX9_takesShow_42 : decode cX9_takesShow 42 = .ok (.invokevirtual 269, 3) := by decide +kernel
theorem dX9_takesShow_45 : decode cX9_takesShow 45 = .ok (.ifCond .ne 5, 3) := by decide +kernel
theorem dX9_takesShow_48 : decode cX9_takesShow 48 = .ok (.iconst 0, 1) := by decide +kernel
theorem dX9_takesShow_49 : decode cX9_takesShow 49 = .ok (.ireturn, 1) := by decide +kernel
theorem dX9_takesShow_50 : decode cX9_takesShow 50 = .ok (.aload_n 0, 1) := by decide +kernel
theorem dX9_takesShow_51 : decode cX9_takesShow 51 = .ok (.getfield 45, 3) := by decide +kernel
theorem dX9_takesShow_54 : decode cX9_takesShow 54 = .ok (.aload_n 0, 1) := by decide +kernel
theorem dX9_takesShow_55 : decode cX9_takesShow 55 = .ok (.getfield 48, 3) := by decide +kernel
theorem dX9_takesShow_58 : decode cX9_takesShow 58 = .ok (.iconst 0, 1) := by decide +kernel
theorem dX9_takesShow_59 : decode cX9_takesShow 59 = .ok (.iaload, 1) := by decide +kernel
theorem dX9_takesShow_60 : decode cX9_takesShow 60 = .ok (.aload_n 0, 1) := by decide +kernel
theorem dX9_takesShow_61 : decode cX9_takesShow 61 = .ok (.getfield 48, 3) := by decide +kernel
theorem dX9_takesShow_64 : decode cX9_takesShow 64 = .ok (.iconst 1, 1) := by decide +kernel
theorem dX9_takesShow_65 : decode cX9_takesShow 65 = .ok (.iaload, 1) := by decide +kernel
theorem dX9_takesShow_66 : decode cX9_takesShow 66 = .ok (.aload_n 0, 1) := by decide +kernel
theorem dX9_takesShow_67 : decode cX9_takesShow 67 = .ok (.getfield 48, 3) := by decide +kernel
theorem dX9_takesShow_70 : decode cX9_takesShow 70 = .ok (.iconst 2, 1) := by decide +kernel
theorem dX9_takesShow_71 : decode cX9_takesShow 71 = .ok (.iaload, 1) := by decide +kernel
theorem dX9_takesShow_72 : decode cX9_takesShow 72 = .ok (.invokestatic 85, 3) := by decide +kernel
theorem dX9_takesShow_75 : decode cX9_takesShow 75 = .ok (.iconst 1, 1) := by decide +kernel
theorem dX9_takesShow_76 : decode cX9_takesShow 76 = .ok (.ireturn, 1) := by decide +kernel
theorem dX9_takesOff_0 : decode cX9_takesOff 0 = .ok (.aload_n 0, 1) := by decide +kernel
theorem dX9_takesOff_1 : decode cX9_takesOff 1 = .ok (.invokevirtual 266, 3) := by decide +kernel
theorem dX9_takesOff_4 : decode cX9_takesOff 4 = .ok (.aload_n 0, 1) := by decide +kernel
theorem dX9_takesOff_5 : decode cX9_takesOff 5 = .ok (.iconst 0, 1) := by decide +kernel
theorem dX9_takesOff_6 : decode cX9_takesOff 6 = .ok (.iconst 0, 1) := by decide +kernel
theorem dX9_takesOff_7 : decode cX9_takesOff 7 = .ok (.aload_n 0, 1) := by decide +kernel
theorem dX9_takesOff_8 : decode cX9_takesOff 8 = .ok (.getfield 45, 3) := by decide +kernel
theorem dX9_takesOff_11 : decode cX9_takesOff 11 = .ok (.iconst 0, 1) := by decide +kernel
theorem dX9_takesOff_12 : decode cX9_takesOff 12 = .ok (.iaload, 1) := by decide +kernel
theorem dX9_takesOff_13 : decode cX9_takesOff 13 = .ok (.iconst 1, 1) := by decide +kernel
theorem dX9_takesOff_14 : decode cX9_takesOff 14 = .ok (.isub, 1) := by decide +kernel
theorem dX9_takesOff_15 : decode cX9_takesOff 15 = .ok (.invokevirtual 269, 3) := by decide +kernel
theorem dX9_takesOff_18 : decode cX9_takesOff 18 = .ok (.ifCond .ne 5, 3) := by decide +kernel
theorem dX9_takesOff_21 : decode cX9_takesOff 21 = .ok (.iconst 0, 1) := by decide +kernel
theorem dX9_takesOff_22 : decode cX9_takesOff 22 = .ok (.ireturn, 1) := by decide +kernel
theorem dX9_takesOff_23 : decode cX9_takesOff 23 = .ok (.aload_n 0, 1) := by decide +kernel
theorem dX9_takesOff_24 : decode cX9_takesOff 24 = .ok (.getfield 45, 3) := by decide +kernel
theorem dX9_takesOff_27 : decode cX9_takesOff 27 = .ok (.bipush 25, 2) := by decide +kernel
theorem dX9_takesOff_29 : decode cX9_takesOff 29 = .ok (.aload_n 0, 1) := by decide +kernel
theorem dX9_takesOff_30 : decode cX9_takesOff 30 = .ok (.getfield 48, 3) := by decide +kernel
theorem dX9_takesOff_33 : decode cX9_takesOff 33 = .ok (.iconst 0, 1) := by decide +kernel
theorem dX9_takesOff_34 : decode cX9_takesOff 34 = .ok (.iaload, 1) := by decide +kernel
theorem dX9_takesOff_35 : decode cX9_takesOff 35 = .ok (.iadd, 1) := by decide +kernel
theorem dX9_takesOff_36 : decode cX9_takesOff 36 = .ok (.iconst 0, 1) := by decide +kernel
theorem dX9_takesOff_37 : decode cX9_takesOff 37 = .ok (.iastore, 1) := by decide +kernel
theorem dX9_takesOff_38 : decode cX9_takesOff 38 = .ok (.iconst 1, 1) := by decide +kernel
theorem dX9_takesOff_39 : decode cX9_takesOff 39 = .ok (.ireturn, 1) := by decide +kernel
theorem dX9_takesWatcher_0 : decode cX9_takesWatcher 0 = .ok (.aload_n 0, 1) := by decide +kernel
theorem dX9_takesWatcher_1 : decode cX9_takesWatcher 1 = .ok (.getfield 45, 3) := by decide +kernel
theorem dX9_takesWatcher_4 : decode cX9_takesWatcher 4 = .ok (.iconst 1, 1) := by decide +kernel
theorem dX9_takesWatcher_5 : decode cX9_takesWatcher 5 = .ok (.iaload, 1) := by decide +kernel
theorem dX9_takesWatcher_6 : decode cX9_takesWatcher 6 = .ok (.bipush 6, 2) := by decide +kernel
theorem dX9_takesWatcher_8 : decode cX9_takesWatcher 8 = .ok (.if_icmp .ne 5, 3) := by decide +kernel
theorem dX9_takesWatcher_11 : decode cX9_takesWatcher 11 = .ok (.iconst 0, 1) := by decide +kernel
theorem dX9_takesWatcher_12 : decode cX9_takesWatcher 12 = .ok (.ireturn, 1) := by decide +kernel
theorem dX9_takesWatcher_13 : decode cX9_takesWatcher 13 = .ok (.aload_n 0, 1) := by decide +kernel
theorem dX9_takesWatcher_14 : decode cX9_takesWatcher 14 = .ok (.invokevirtual 266, 3) := by decide +kernel
theorem dX9_takesWatcher_17 : decode cX9_takesWatcher 17 = .ok (.aload_n 0, 1) := by decide +kernel
theorem dX9_takesWatcher_18 : decode cX9_takesWatcher 18 = .ok (.iconst 0, 1) := by decide +kernel
theorem dX9_takesWatcher_19 : decode cX9_takesWatcher 19 = .ok (.iconst 0, 1) := by decide +kernel
theorem dX9_takesWatcher_20 : decode cX9_takesWatcher 20 = .ok (.iconst 5, 1) := by decide +kernel
theorem dX9_takesWatcher_21 : decode cX9_takesWatcher 21 = .ok (.invokevirtual 269, 3) := by decide +kernel
theorem dX9_takesWatcher_24 : decode cX9_takesWatcher 24 = .ok (.ifCond .eq 14, 3) := by decide +kernel
theorem dX9_takesWatcher_27 : decode cX9_takesWatcher 27 = .ok (.aload_n 0, 1) := by decide +kernel
theorem dX9_takesWatcher_28 : decode cX9_takesWatcher 28 = .ok (.iconst 1, 1) := by decide +kernel
theorem dX9_takesWatcher_29 : decode cX9_takesWatcher 29 = .ok (.iconst 0, 1) := by decide +kernel
theorem dX9_takesWatcher_30 : decode cX9_takesWatcher 30 = .ok (.bipush 29, 2) := by decide +kernel
theorem dX9_takesWatcher_32 : decode cX9_takesWatcher 32 = .ok (.invokevirtual 269, 3) := by decide +kernel
theorem dX9_takesWatcher_35 : decode cX9_takesWatcher 35 = .ok (.ifCond .ne 5, 3) := by decide +kernel
theorem dX9_takesWatcher_38 : decode cX9_takesWatcher 38 = .ok (.iconst 0, 1) := by decide +kernel
theorem dX9_takesWatcher_39 : decode cX9_takesWatcher 39 = .ok (.ireturn, 1) := by decide +kernel
theorem dX9_takesWatcher_40 : decode cX9_takesWatcher 40 = .ok (.aload_n 0, 1) := by decide +kernel
theorem dX9_takesWatcher_41 : decode cX9_takesWatcher 41 = .ok (.getfield 45, 3) := by decide +kernel
theorem dX9_takesWatcher_44 : decode cX9_takesWatcher 44 = .ok (.aload_n 0, 1) := by decide +kernel
theorem dX9_takesWatcher_45 : decode cX9_takesWatcher 45 = .ok (.getfield 48, 3) := by decide +kernel
theorem dX9_takesWatcher_48 : decode cX9_takesWatcher 48 = .ok (.iconst 0, 1) := by decide +kernel
theorem dX9_takesWatcher_49 : decode cX9_takesWatcher 49 = .ok (.iaload, 1) := by decide +kernel
theorem dX9_takesWatcher_50 : decode cX9_takesWatcher 50 = .ok (.aload_n 0, 1) := by decide +kernel
theorem dX9_takesWatcher_51 : decode cX9_takesWatcher 51 = .ok (.getfield 48, 3) := by decide +kernel
theorem dX9_takesWatcher_54 : decode cX9_takesWatcher 54 = .ok (.iconst 1, 1) := by decide +kernel
theorem dX9_takesWatcher_55 : decode cX9_takesWatcher 55 = .ok (.iaload, 1) := by decide +kernel
theorem dX9_takesWatcher_56 : decode cX9_takesWatcher 56 = .ok (.invokestatic 89, 3) := by decide +kernel
theorem dX9_takesWatcher_59 : decode cX9_takesWatcher 59 = .ok (.iconst 1, 1) := by decide +kernel
theorem dX9_takesWatcher_60 : decode cX9_takesWatcher 60 = .ok (.ireturn, 1) := by decide +kernel
theorem dX9_takesDo_0 : decode cX9_takesDo 0 = .ok (.aload_n 0, 1) := by decide +kernel
theorem dX9_takesDo_1 : decode cX9_takesDo 1 = .ok (.invokevirtual 266, 3) := by decide +kernel
theorem dX9_takesDo_4 : decode cX9_takesDo 4 = .ok (.aload_n 0, 1) := by decide +kernel
theorem dX9_takesDo_5 : decode cX9_takesDo 5 = .ok (.iconst 0, 1) := by decide +kernel
theorem dX9_takesDo_6 : decode cX9_takesDo 6 = .ok (.iconst 0, 1) := by decide +kernel
theorem dX9_takesDo_7 : decode cX9_takesDo 7 = .ok (.bipush 29, 2) := by decide +kernel
theorem dX9_takesDo_9 : decode cX9_takesDo 9 = .ok (.invokevirtual 269, 3) := by decide +kernel
theorem dX9_takesDo_12 : decode cX9_takesDo 12 = .ok (.ifCond .eq 23, 3) := by decide +kernel
theorem dX9_takesDo_15 : decode cX9_takesDo 15 = .ok (.aload_n 0, 1) := by decide +kernel
theorem dX9_takesDo_16 : decode cX9_takesDo 16 = .ok (.getfield 45, 3) := by decide +kernel
theorem dX9_takesDo_19 : decode cX9_takesDo 19 = .ok (.aload_n 0, 1) := by decide +kernel
theorem dX9_takesDo_20 : decode cX9_takesDo 20 = .ok (.getfield 48, 3) := by decide +kernel
theorem dX9_takesDo_23 : decode cX9_takesDo 23 = .ok (.iconst 0, 1) := by decide +kernel
theorem dX9_takesDo_24 : decode cX9_takesDo 24 = .ok (.iaload, 1) := by decide +kernel
theorem dX9_takesDo_25 : decode cX9_takesDo 25 = .ok (.invokestatic 143, 3) := by decide +kernel
theorem dX9_takesDo_28 : decode cX9_takesDo 28 = .ok (.ifCond .lt 7, 3) := by decide +kernel
theorem dX9_takesDo_31 : decode cX9_takesDo 31 = .ok (.iconst 1, 1) := by decide +kernel
theorem dX9_takesDo_32 : decode cX9_takesDo 32 = .ok (.goto 4, 3) := by decide +kernel
theorem dX9_takesDo_35 : decode cX9_takesDo 35 = .ok (.iconst 0, 1) := by decide +kernel
theorem dX9_takesDo_36 : decode cX9_takesDo 36 = .ok (.ireturn, 1) := by decide +kernel
theorem dX9_takesRest_0 : decode cX9_takesRest 0 = .ok (.aload_n 0, 1) := by decide +kernel
theorem dX9_takesRest_1 : decode cX9_takesRest 1 = .ok (.invokevirtual 266, 3) := by decide +kernel
theorem dX9_takesRest_4 : decode cX9_takesRest 4 = .ok (.aload_n 0, 1) := by decide +kernel
theorem dX9_takesRest_5 : decode cX9_takesRest 5 = .ok (.iconst 0, 1) := by decide +kernel
theorem dX9_takesRest_6 : decode cX9_takesRest 6 = .ok (.iconst 1, 1) := by decide +kernel
theorem dX9_takesRest_7 : decode cX9_takesRest 7 = .ok (.bipush 99, 2) := by decide +kernel
theorem dX9_takesRest_9 : decode cX9_takesRest 9 = .ok (.invokevirtual 269, 3) := by decide +kernel
theorem dX9_takesRest_12 : decode cX9_takesRest 12 = .ok (.ifCond .ne 5, 3) := by decide +kernel
theorem dX9_takesRest_15 : decode cX9_takesRest 15 = .ok (.iconst 0, 1) := by decide +kernel
theorem dX9_takesRest_16 : decode cX9_takesRest 16 = .ok (.ireturn, 1) := by decide +kernel
theorem dX9_takesRest_17 : decode cX9_takesRest 17 = .ok (.aload_n 0, 1) := by decide +kernel
theorem dX9_takesRest_18 : decode cX9_takesRest 18 = .ok (.getfield 45, 3) := by decide +kernel
theorem dX9_takesRest_21 : decode cX9_takesRest 21 = .ok (.aload_n 0, 1) := by decide +kernel
theorem dX9_takesRest_22 : decode cX9_takesRest 22 = .ok (.getfield 48, 3) := by decide +kernel
theorem dX9_takesRest_25 : decode cX9_takesRest 25 = .ok (.iconst 0, 1) := by decide +kernel
theorem dX9_takesRest_26 : decode cX9_takesRest 26 = .ok (.iaload, 1) := by decide +kernel
theorem dX9_takesRest_27 : decode cX9_takesRest 27 = .ok (.invokestatic 149, 3) := by decide +kernel
theorem dX9_takesRest_30 : decode cX9_takesRest 30 = .ok (.iconst 1, 1) := by decide +kernel
theorem dX9_takesRest_31 : decode cX9_takesRest 31 = .ok (.ireturn, 1) := by decide +kernel
theorem dX9_isWatcherWord_0 : decode cX9_isWatcherWord 0 = .ok (.aload_n 0, 1) := by decide +kernel
theorem dX9_isWatcherWord_1 : decode cX9_isWatcherWord 1 = .ok (.getfield 250, 3) := by decide +kernel
theorem dX9_isWatcherWord_4 : decode cX9_isWatcherWord 4 = .ok (.iconst 1, 1) := by decide +kernel
theorem dX9_isWatcherWord_5 : decode cX9_isWatcherWord 5 = .ok (.if_icmp .ne 16, 3) := by decide +kernel
theorem dX9_isWatcherWord_8 : decode cX9_isWatcherWord 8 = .ok (.aload_n 0, 1) := by decide +kernel
theorem dX9_isWatcherWord_9 : decode cX9_isWatcherWord 9 = .ok (.getfield 247, 3) := by decide +kernel
theorem dX9_isWatcherWord_12 : decode cX9_isWatcherWord 12 = .ok (.bipush 7, 2) := by decide +kernel
theorem dX9_isWatcherWord_14 : decode cX9_isWatcherWord 14 = .ok (.if_icmp .ne 7, 3) := by decide +kernel
theorem dX9_isWatcherWord_17 : decode cX9_isWatcherWord 17 = .ok (.iconst 1, 1) := by decide +kernel
theorem dX9_isWatcherWord_18 : decode cX9_isWatcherWord 18 = .ok (.goto 4, 3) := by decide +kernel
theorem dX9_isWatcherWord_21 : decode cX9_isWatcherWord 21 = .ok (.iconst 0, 1) := by decide +kernel
theorem dX9_isWatcherWord_22 : decode cX9_isWatcherWord 22 = .ok (.istore_n 1, 1) := by decide +kernel
theorem dX9_isWatcherWord_23 : decode cX9_isWatcherWord 23 = .ok (.aload_n 0, 1) := by decide +kernel
theorem dX9_isWatcherWord_24 : decode cX9_isWatcherWord 24 = .ok (.iload_n 1, 1) := by decide +kernel
theorem dX9_isWatcherWord_25 : decode cX9_isWatcherWord 25 = .ok (.ifCond .eq 8, 3) := by decide +kernel
theorem dX9_isWatcherWord_28 : decode cX9_isWatcherWord 28 = .ok (.bipush 6, 2) := by decide +kernel
theorem dX9_isWatcherWord_30 : decode cX9_isWatcherWord 30 = .ok (.goto 7, 3) := by decide +kernel
theorem dX9_isWatcherWord_33 : decode cX9_isWatcherWord 33 = .ok (.aload_n 0, 1) := by decide +kernel
theorem dX9_isWatcherWord_34 : decode cX9_isWatcherWord 34 = .ok (.getfield 247, 3) := by decide +kernel
theorem dX9_isWatcherWord_37 : decode cX9_isWatcherWord 37 = .ok (.putfield 247, 3) := by decide +kernel
theorem dX9_isWatcherWord_40 : decode cX9_isWatcherWord 40 = .ok (.aload_n 0, 1) := by decide +kernel
theorem dX9_isWatcherWord_41 : decode cX9_isWatcherWord 41 = .ok (.bipush 6, 2) := by decide +kernel
theorem dX9_isWatcherWord_43 : decode cX9_isWatcherWord 43 = .ok (.bipush 119, 2) := by decide +kernel
theorem dX9_isWatcherWord_45 : decode cX9_isWatcherWord 45 = .ok (.bipush 97, 2) := by decide +kernel
theorem dX9_isWatcherWord_47 : decode cX9_isWatcherWord 47 = .ok (.bipush 116, 2) := by decide +kernel
theorem dX9_isWatcherWord_49 : decode cX9_isWatcherWord 49 = .ok (.bipush 99, 2) := by decide +kernel
theorem dX9_isWatcherWord_51 : decode cX9_isWatcherWord 51 = .ok (.bipush 104, 2) := by decide +kernel
theorem dX9_isWatcherWord_53 : decode cX9_isWatcherWord 53 = .ok (.bipush 101, 2) := by decide +kernel
theorem dX9_isWatcherWord_55 : decode cX9_isWatcherWord 55 = .ok (.invokevirtual 272, 3) := by decide +kernel
theorem dX9_isWatcherWord_58 : decode cX9_isWatcherWord 58 = .ok (.istore_n 2, 1) := by decide +kernel
theorem dX9_isWatcherWord_59 : decode cX9_isWatcherWord 59 = .ok (.aload_n 0, 1) := by decide +kernel
theorem dX9_isWatcherWord_60 : decode cX9_isWatcherWord 60 = .ok (.iload_n 1, 1) := by decide +kernel
theorem dX9_isWatcherWord_61 : decode cX9_isWatcherWord 61 = .ok (.ifCond .eq 8, 3) := by decide +kernel
theorem dX9_isWatcherWord_64 : decode cX9_isWatcherWord 64 = .ok (.bipush 7, 2) := by decide +kernel
theorem dX9_isWatcherWord_66 : decode cX9_isWatcherWord 66 = .ok (.goto 7, 3) := by decide +kernel
theorem dX9_isWatcherWord_69 : decode cX9_isWatcherWord 69 = .ok (.aload_n 0, 1) := by decide +kernel
theorem dX9_isWatcherWord_70 : decode cX9_isWatcherWord 70 = .ok (.getfield 247, 3) := by decide +kernel
theorem dX9_isWatcherWord_73 : decode cX9_isWatcherWord 73 = .ok (.putfield 247, 3) := by decide +kernel
theorem dX9_isWatcherWord_76 : decode cX9_isWatcherWord 76 = .ok (.iload_n 1, 1) := by decide +kernel
theorem dX9_isWatcherWord_77 : decode cX9_isWatcherWord 77 = .ok (.ifCond .eq 28, 3) := by decide +kernel
theorem dX9_isWatcherWord_80 : decode cX9_isWatcherWord 80 = .ok (.iload_n 2, 1) := by decide +kernel
theorem dX9_isWatcherWord_81 : decode cX9_isWatcherWord 81 = .ok (.ifCond .eq 24, 3) := by decide +kernel
theorem dX9_isWatcherWord_84 : decode cX9_isWatcherWord 84 = .ok (.aload_n 0, 1) := by decide +kernel
theorem dX9_isWatcherWord_85 : decode cX9_isWatcherWord 85 = .ok (.getfield 42, 3) := by decide +kernel
theorem dX9_isWatcherWord_88 : decode cX9_isWatcherWord 88 = .ok (.aload_n 0, 1) := by decide +kernel
theorem dX9_isWatcherWord_89 : decode cX9_isWatcherWord 89 = .ok (.getfield 244, 3) := by decide +kernel
theorem dX9_isWatcherWord_92 : decode cX9_isWatcherWord 92 = .ok (.bipush 6, 2) := by decide +kernel
theorem dX9_isWatcherWord_94 : decode cX9_isWatcherWord 94 = .ok (.iadd, 1) := by decide +kernel
theorem dX9_isWatcherWord_95 : decode cX9_isWatcherWord 95 = .ok (.iaload, 1) := by decide +kernel
theorem dX9_isWatcherWord_96 : decode cX9_isWatcherWord 96 = .ok (.bipush 114, 2) := by decide +kernel
theorem dX9_isWatcherWord_98 : decode cX9_isWatcherWord 98 = .ok (.if_icmp .ne 7, 3) := by decide +kernel
theorem dX9_isWatcherWord_101 : decode cX9_isWatcherWord 101 = .ok (.iconst 1, 1) := by decide +kernel
theorem dX9_isWatcherWord_102 : decode cX9_isWatcherWord 102 = .ok (.goto 4, 3) := by decide +kernel
theorem dX9_isWatcherWord_105 : decode cX9_isWatcherWord 105 = .ok (.iconst 0, 1) := by decide +kernel
theorem dX9_isWatcherWord_106 : decode cX9_isWatcherWord 106 = .ok (.ireturn, 1) := by decide +kernel
theorem dX9_takesItem_0 : decode cX9_takesItem 0 = .ok (.aload_n 0, 1) := by decide +kernel
theorem dX9_takesItem_1 : decode cX9_takesItem 1 = .ok (.iconst 4, 1) := by decide +kernel
theorem dX9_takesItem_2 : decode cX9_takesItem 2 = .ok (.bipush 115, 2) := by decide +kernel
theorem dX9_takesItem_4 : decode cX9_takesItem 4 = .ok (.bipush 104, 2) := by decide +kernel
theorem dX9_takesItem_6 : decode cX9_takesItem 6 = .ok (.bipush 111, 2) := by decide +kernel
theorem dX9_takesItem_8 : decode cX9_takesItem 8 = .ok (.bipush 119, 2) := by decide +kernel
theorem dX9_takesItem_10 : decode cX9_takesItem 10 = .ok (.iconst 0, 1) := by decide +kernel
theorem dX9_takesItem_11 : decode cX9_takesItem 11 = .ok (.iconst 0, 1) := by decide +kernel
theorem dX9_takesItem_12 : decode cX9_takesItem 12 = .ok (.invokevirtual 272, 3) := by decide +kernel
theorem dX9_takesItem_15 : decode cX9_takesItem 15 = .ok (.ifCond .eq 8, 3) := by decide +kernel
theorem dX9_takesItem_18 : decode cX9_takesItem 18 = .ok (.aload_n 0, 1) := by decide +kernel
theorem dX9_takesItem_19 : decode cX9_takesItem 19 = .ok (.invokevirtual 276, 3) := by decide +kernel
theorem dX9_takesItem_22 : decode cX9_takesItem 22 = .ok (.ireturn, 1) := by decide +kernel
theorem dX9_takesItem_23 : decode cX9_takesItem 23 = .ok (.aload_n 0, 1) := by decide +kernel
theorem dX9_takesItem_24 : decode cX9_takesItem 24 = .ok (.iconst 3, 1) := by decide +kernel
theorem dX9_takesItem_25 : decode cX9_takesItem 25 = .ok (.bipush 111, 2) := by decide +kernel
theorem dX9_takesItem_27 : decode cX9_takesItem 27 = .ok (.bipush 102, 2) := by decide +kernel
theorem dX9_takesItem_29 : decode cX9_takesItem 29 = .ok (.bipush 102, 2) := by decide +kernel
theorem dX9_takesItem_31 : decode cX9_takesItem 31 = .ok (.iconst 0, 1) := by decide +kernel
theorem dX9_takesItem_32 : decode cX9_takesItem 32 = .ok (.iconst 0, 1) := by decide +kernel
theorem dX9_takesItem_33 : decode cX9_takesItem 33 = .ok (.iconst 0, 1) := by decide +kernel
theorem dX9_takesItem_34 : decode cX9_takesItem 34 = .ok (.invokevirtual 272, 3) := by decide +kernel
theorem dX9_takesItem_37 : decode cX9_takesItem 37 = .ok (.ifCond .eq 8, 3) := by decide +kernel
theorem dX9_takesItem_40 : decode cX9_takesItem 40 = .ok (.aload_n 0, 1) := by decide +kernel
theorem dX9_takesItem_41 : decode cX9_takesItem 41 = .ok (.invokevirtual 280, 3) := by decide +kernel
theorem dX9_takesItem_44 : decode cX9_takesItem 44 = .ok (.ireturn, 1) := by decide +kernel
theorem dX9_takesItem_45 : decode cX9_takesItem 45 = .ok (.aload_n 0, 1) := by decide +kernel
theorem dX9_takesItem_46 : decode cX9_takesItem 46 = .ok (.iconst 2, 1) := by decide +kernel
theorem dX9_takesItem_47 : decode cX9_takesItem 47 = .ok (.bipush 100, 2) := by decide +kernel
theorem dX9_takesItem_49 : decode cX9_takesItem 49 = .ok (.bipush 111, 2) := by decide +kernel
theorem dX9_takesItem_51 : decode cX9_takesItem 51 = .ok (.iconst 0, 1) := by decide +kernel
theorem dX9_takesItem_52 : decode cX9_takesItem 52 = .ok (.iconst 0, 1) := by decide +kernel
theorem dX9_takesItem_53 : decode cX9_takesItem 53 = .ok (.iconst 0, 1) := by decide +kernel
theorem dX9_takesItem_54 : decode cX9_takesItem 54 = .ok (.iconst 0, 1) := by decide +kernel
theorem dX9_takesItem_55 : decode cX9_takesItem 55 = .ok (.invokevirtual 272, 3) := by decide +kernel
theorem dX9_takesItem_58 : decode cX9_takesItem 58 = .ok (.ifCond .eq 8, 3) := by decide +kernel
theorem dX9_takesItem_61 : decode cX9_takesItem 61 = .ok (.aload_n 0, 1) := by decide +kernel
theorem dX9_takesItem_62 : decode cX9_takesItem 62 = .ok (.invokevirtual 283, 3) := by decide +kernel
theorem dX9_takesItem_65 : decode cX9_takesItem 65 = .ok (.ireturn, 1) := by decide +kernel
theorem dX9_takesItem_66 : decode cX9_takesItem 66 = .ok (.aload_n 0, 1) := by decide +kernel
theorem dX9_takesItem_67 : decode cX9_takesItem 67 = .ok (.iconst 4, 1) := by decide +kernel
theorem dX9_takesItem_68 : decode cX9_takesItem 68 = .ok (.bipush 114, 2) := by decide +kernel
theorem dX9_takesItem_70 : decode cX9_takesItem 70 = .ok (.bipush 101, 2) := by decide +kernel
theorem dX9_takesItem_72 : decode cX9_takesItem 72 = .ok (.bipush 115, 2) := by decide +kernel
theorem dX9_takesItem_74 : decode cX9_takesItem 74 = .ok (.bipush 116, 2) := by decide +kernel
theorem dX9_takesItem_76 : decode cX9_takesItem 76 = .ok (.iconst 0, 1) := by decide +kernel
theorem dX9_takesItem_77 : decode cX9_takesItem 77 = .ok (.iconst 0, 1) := by decide +kernel
theorem dX9_takesItem_78 : decode cX9_takesItem 78 = .ok (.invokevirtual 272, 3) := by decide +kernel
theorem dX9_takesItem_81 : decode cX9_takesItem 81 = .ok (.ifCond .eq 8, 3) := by decide +kernel
theorem dX9_takesItem_84 : decode cX9_takesItem 84 = .ok (.aload_n 0, 1) := by decide +kernel
theorem dX9_takesItem_85 : decode cX9_takesItem 85 = .ok (.invokevirtual 286, 3) := by decide +kernel
theorem dX9_takesItem_88 : decode cX9_takesItem 88 = .ok (.ireturn, 1) := by decide +kernel
theorem dX9_takesItem_89 : decode cX9_takesItem 89 = .ok (.aload_n 0, 1) := by decide +kernel
theorem dX9_takesItem_90 : decode cX9_takesItem 90 = .ok (.invokevirtual 289, 3) := by decide +kernel
theorem dX9_takesItem_93 : decode cX9_takesItem 93 = .ok (.ifCond .eq 14, 3) := by decide +kernel
theorem dX9_takesItem_96 : decode cX9_takesItem 96 = .ok (.aload_n 0, 1) := by decide +kernel
theorem dX9_takesItem_97 : decode cX9_takesItem 97 = .ok (.invokevirtual 292, 3) := by decide +kernel
theorem dX9_takesItem_100 : decode cX9_takesItem 100 = .ok (.ifCond .eq 7, 3) := by decide +kernel
theorem dX9_takesItem_103 : decode cX9_takesItem 103 = .ok (.iconst 1, 1) := by decide +kernel
theorem dX9_takesItem_104 : decode cX9_takesItem 104 = .ok (.goto 4, 3) := by decide +kernel
theorem dX9_takesItem_107 : decode cX9_takesItem 107 = .ok (.iconst 0, 1) := by decide +kernel
theorem dX9_takesItem_108 : decode cX9_takesItem 108 = .ok (.ireturn, 1) := by decide +kernel
theorem dX9_read_0 : decode cX9_read 0 = .ok (.aload_n 0, 1) := by decide +kernel
theorem dX9_read_1 : decode cX9_read 1 = .ok (.iconst 0, 1) := by decide +kernel
theorem dX9_read_2 : decode cX9_read 2 = .ok (.invokevirtual 262, 3) := by decide +kernel
theorem dX9_read_5 : decode cX9_read 5 = .ok (.aload_n 0, 1) := by decide +kernel
theorem dX9_read_6 : decode cX9_read 6 = .ok (.iconst 4, 1) := by decide +kernel
theorem dX9_read_7 : decode cX9_read 7 = .ok (.bipush 108, 2) := by decide +kernel
theorem dX9_read_9 : decode cX9_read 9 = .ok (.bipush 97, 2) := by decide +kernel
theorem dX9_read_11 : decode cX9_read 11 = .ok (.bipush 110, 2) := by decide +kernel
theorem dX9_read_13 : decode cX9_read 13 = .ok (.bipush 100, 2) := by decide +kernel
theorem dX9_read_15 : decode cX9_read 15 = .ok (.iconst 0, 1) := by decide +kernel
theorem dX9_read_16 : decode cX9_read 16 = .ok (.iconst 0, 1) := by decide +kernel
theorem dX9_read_17 : decode cX9_read 17 = .ok (.invokevirtual 272, 3) := by decide +kernel
theorem dX9_read_20 : decode cX9_read 20 = .ok (.ifCond .ne 11, 3) := by decide +kernel
theorem dX9_read_23 : decode cX9_read 23 = .ok (.bipush (-10), 2) := by decide +kernel
theorem dX9_read_25 : decode cX9_read 25 = .ok (.aload_n 0, 1) := by decide +kernel
theorem dX9_read_26 : decode cX9_read 26 = .ok (.getfield 244, 3) := by decide +kernel
theorem dX9_read_29 : decode cX9_read 29 = .ok (.isub, 1) := by decide +kernel
theorem dX9_read_30 : decode cX9_read 30 = .ok (.ireturn, 1) := by decide +kernel
theorem dX9_read_31 : decode cX9_read 31 = .ok (.aload_n 0, 1) := by decide +kernel
theorem dX9_read_32 : decode cX9_read 32 = .ok (.invokevirtual 266, 3) := by decide +kernel
theorem dX9_read_35 : decode cX9_read 35 = .ok (.aload_n 0, 1) := by decide +kernel
theorem dX9_read_36 : decode cX9_read 36 = .ok (.getfield 250, 3) := by decide +kernel
theorem dX9_read_39 : decode cX9_read 39 = .ok (.iconst 3, 1) := by decide +kernel
theorem dX9_read_40 : decode cX9_read 40 = .ok (.if_icmp .eq 11, 3) := by decide +kernel
theorem dX9_read_43 : decode cX9_read 43 = .ok (.bipush (-10), 2) := by decide +kernel
theorem dX9_read_45 : decode cX9_read 45 = .ok (.aload_n 0, 1) := by decide +kernel
theorem dX9_read_46 : decode cX9_read 46 = .ok (.getfield 244, 3) := by decide +kernel
theorem dX9_read_49 : decode cX9_read 49 = .ok (.isub, 1) := by decide +kernel
theorem dX9_read_50 : decode cX9_read 50 = .ok (.ireturn, 1) := by decide +kernel
theorem dX9_read_51 : decode cX9_read 51 = .ok (.aload_n 0, 1) := by decide +kernel
theorem dX9_read_52 : decode cX9_read 52 = .ok (.invokevirtual 266, 3) := by decide +kernel
theorem dX9_read_55 : decode cX9_read 55 = .ok (.aload_n 0, 1) := by decide +kernel
theorem dX9_read_56 : decode cX9_read 56 = .ok (.getfield 45, 3) := by decide +kernel
theorem dX9_read_59 : decode cX9_read 59 = .ok (.invokestatic 51, 3) := by decide +kernel
theorem dX9_read_62 : decode cX9_read 62 = .ok (.iconst 1, 1) := by decide +kernel
theorem dX9_read_63 : decode cX9_read 63 = .ok (.istore_n 1, 1) := by decide +kernel
theorem dX9_read_64 : decode cX9_read 64 = .ok (.aload_n 0, 1) := by decide +kernel
theorem dX9_read_65 : decode cX9_read 65 = .ok (.getfield 250, 3) := by decide +kernel
theorem dX9_read_68 : decode cX9_read 68 = .ok (.ifCond .eq 36, 3) := by decide +kernel
theorem dX9_read_71 : decode cX9_read 71 = .ok (.aload_n 0, 1) := by decide +kernel
theorem dX9_read_72 : decode cX9_read 72 = .ok (.invokevirtual 295, 3) := by decide +kernel
theorem dX9_read_75 : decode cX9_read 75 = .ok (.ifCond .eq 11, 3) := by decide +kernel
theorem dX9_read_78 : decode cX9_read 78 = .ok (.aload_n 0, 1) := by decide +kernel
theorem dX9_read_79 : decode cX9_read 79 = .ok (.getfield 250, 3) := by decide +kernel
theorem dX9_read_82 : decode cX9_read 82 = .ok (.iconst 3, 1) := by decide +kernel
theorem dX9_read_83 : decode cX9_read 83 = .ok (.if_icmp .eq 11, 3) := by decide +kernel
theorem dX9_read_86 : decode cX9_read 86 = .ok (.bipush (-10), 2) := by decide +kernel
theorem dX9_read_88 : decode cX9_read 88 = .ok (.aload_n 0, 1) := by decide +kernel
theorem dX9_read_89 : decode cX9_read 89 = .ok (.getfield 244, 3) := by decide +kernel
theorem dX9_read_92 : decode cX9_read 92 = .ok (.isub, 1) := by decide +kernel
theorem dX9_read_93 : decode cX9_read 93 = .ok (.ireturn, 1) := by decide +kernel
theorem dX9_read_94 : decode cX9_read 94 = .ok (.aload_n 0, 1) := by decide +kernel
theorem dX9_read_95 : decode cX9_read 95 = .ok (.invokevirtual 266, 3) := by decide +kernel
theorem dX9_read_98 : decode cX9_read 98 = .ok (.iinc 1 1, 3) := by decide +kernel
theorem dX9_read_101 : decode cX9_read 101 = .ok (.goto (-37), 3) := by decide +kernel
theorem dX9_read_104 : decode cX9_read 104 = .ok (.iconst 0, 1) := by decide +kernel
theorem dX9_read_105 : decode cX9_read 105 = .ok (.istore_n 2, 1) := by decide +kernel
theorem dX9_read_106 : decode cX9_read 106 = .ok (.iload_n 2, 1) := by decide +kernel
theorem dX9_read_107 : decode cX9_read 107 = .ok (.bipush 112, 2) := by decide +kernel
theorem dX9_read_109 : decode cX9_read 109 = .ok (.if_icmp .ge 21, 3) := by decide +kernel
theorem dX9_read_112 : decode cX9_read 112 = .ok (.aload_n 0, 1) := by decide +kernel
theorem dX9_read_113 : decode cX9_read 113 = .ok (.getfield 7, 3) := by decide +kernel
theorem dX9_read_116 : decode cX9_read 116 = .ok (.iload_n 2, 1) := by decide +kernel
theorem dX9_read_117 : decode cX9_read 117 = .ok (.aload_n 0, 1) := by decide +kernel
theorem dX9_read_118 : decode cX9_read 118 = .ok (.getfield 45, 3) := by decide +kernel
theorem dX9_read_121 : decode cX9_read 121 = .ok (.iload_n 2, 1) := by decide +kernel
theorem dX9_read_122 : decode cX9_read 122 = .ok (.iaload, 1) := by decide +kernel
theorem dX9_read_123 : decode cX9_read 123 = .ok (.iastore, 1) := by decide +kernel
theorem dX9_read_124 : decode cX9_read 124 = .ok (.iinc 2 1, 3) := by decide +kernel
theorem dX9_read_127 : decode cX9_read 127 = .ok (.goto (-21), 3) := by decide +kernel
theorem dX9_read_130 : decode cX9_read 130 = .ok (.iload_n 1, 1) := by decide +kernel
theorem dX9_read_131 : decode cX9_read 131 = .ok (.ireturn, 1) := by decide +kernel
theorem dX9_part_0 : decode cX9_part 0 = .ok (.iload_n 1, 1) := by decide +kernel
theorem dX9_part_1 : decode cX9_part 1 = .ok (.ifCond .ne 10, 3) := by decide +kernel
theorem dX9_part_4 : decode cX9_part 4 = .ok (.aload_n 0, 1) := by decide +kernel
theorem dX9_part_5 : decode cX9_part 5 = .ok (.getfield 207, 3) := by decide +kernel
theorem dX9_part_8 : decode cX9_part 8 = .ok (.goto 22, 3) := by decide +kernel
theorem dX9_part_11 : decode cX9_part 11 = .ok (.iload_n 1, 1) := by decide +kernel
theorem dX9_part_12 : decode cX9_part 12 = .ok (.iconst 1, 1) := by decide +kernel
theorem dX9_part_13 : decode cX9_part 13 = .ok (.if_icmp .ne 10, 3) := by decide +kernel
theorem dX9_part_16 : decode cX9_part 16 = .ok (.aload_n 0, 1) := by decide +kernel
theorem dX9_part_17 : decode cX9_part 17 = .ok (.getfield 23, 3) := by decide +kernel
theorem dX9_part_20 : decode cX9_part 20 = .ok (.goto 10, 3) := by decide +kernel
theorem dX9_part_23 : decode cX9_part 23 = .ok (.aload_n 0, 1) := by decide +kernel
theorem dX9_part_24 : decode cX9_part 24 = .ok (.bipush (-2), 2) := by decide +kernel
theorem dX9_part_26 : decode cX9_part 26 = .ok (.invokevirtual 78, 3) := by decide +kernel
theorem dX9_part_29 : decode cX9_part 29 = .ok (.i2l, 1) := by decide +kernel
theorem dX9_part_30 : decode cX9_part 30 = .ok (.lreturn, 1) := by decide +kernel
theorem dX9_image_0 : decode cX9_image 0 = .ok (.iload_n 1, 1) := by decide +kernel
theorem dX9_image_1 : decode cX9_image 1 = .ok (.i2l, 1) := by decide +kernel
theorem dX9_image_2 : decode cX9_image 2 = .ok (.lconst 0, 1) := by decide +kernel
theorem dX9_image_3 : decode cX9_image 3 = .ok (.lconst 1, 1) := by decide +kernel
theorem dX9_image_4 : decode cX9_image 4 = .ok (.invokestatic 59, 3) := by decide +kernel
theorem dX9_image_7 : decode cX9_image 7 = .ok (.ifCond .ne 10, 3) := by decide +kernel
theorem dX9_image_10 : decode cX9_image 10 = .ok (.aload_n 0, 1) := by decide +kernel
theorem dX9_image_11 : decode cX9_image 11 = .ok (.bipush (-2), 2) := by decide +kernel
theorem dX9_image_13 : decode cX9_image 13 = .ok (.invokevirtual 78, 3) := by decide +kernel
theorem dX9_image_16 : decode cX9_image 16 = .ok (.ireturn, 1) := by decide +kernel
theorem dX9_image_17 : decode cX9_image 17 = .ok (.iconst 0, 1) := by decide +kernel
theorem dX9_image_18 : decode cX9_image 18 = .ok (.istore_n 2, 1) := by decide +kernel
theorem dX9_image_19 : decode cX9_image 19 = .ok (.iload_n 2, 1) := by decide +kernel
theorem dX9_image_20 : decode cX9_image 20 = .ok (.sipush 304, 3) := by decide +kernel
theorem dX9_image_23 : decode cX9_image 23 = .ok (.if_icmp .ge 27, 3) := by decide +kernel
theorem dX9_image_26 : decode cX9_image 26 = .ok (.aload_n 0, 1) := by decide +kernel
theorem dX9_image_27 : decode cX9_image 27 = .ok (.getfield 13, 3) := by decide +kernel
theorem dX9_image_30 : decode cX9_image 30 = .ok (.sipush 304, 3) := by decide +kernel
theorem dX9_image_33 : decode cX9_image 33 = .ok (.iload_n 1, 1) := by decide +kernel
theorem dX9_image_34 : decode cX9_image 34 = .ok (.imul, 1) := by decide +kernel
theorem dX9_image_35 : decode cX9_image 35 = .ok (.iload_n 2, 1) := by decide +kernel
theorem dX9_image_36 : decode cX9_image 36 = .ok (.iadd, 1) := by decide +kernel
theorem dX9_image_37 : decode cX9_image 37 = .ok (.aload_n 0, 1) := by decide +kernel
theorem dX9_image_38 : decode cX9_image 38 = .ok (.getfield 7, 3) := by decide +kernel
theorem dX9_image_41 : decode cX9_image 41 = .ok (.iload_n 2, 1) := by decide +kernel
theorem dX9_image_42 : decode cX9_image 42 = .ok (.iaload, 1) := by decide +kernel
theorem dX9_image_43 : decode cX9_image 43 = .ok (.iastore, 1) := by decide +kernel
theorem dX9_image_44 : decode cX9_image 44 = .ok (.iinc 2 1, 3) := by decide +kernel
theorem dX9_image_47 : decode cX9_image 47 = .ok (.goto (-28), 3) := by decide +kernel
theorem dX9_image_50 : decode cX9_image 50 = .ok (.aload_n 0, 1) := by decide +kernel
theorem dX9_image_51 : decode cX9_image 51 = .ok (.getfield 16, 3) := by decide +kernel
theorem dX9_image_54 : decode cX9_image 54 = .ok (.iload_n 1, 1) := by decide +kernel
theorem dX9_image_55 : decode cX9_image 55 = .ok (.iconst 1, 1) := by decide +kernel
theorem dX9_image_56 : decode cX9_image 56 = .ok (.bastore, 1) := by decide +kernel
theorem dX9_image_57 : decode cX9_image 57 = .ok (.iconst 1, 1) := by decide +kernel
theorem dX9_image_58 : decode cX9_image 58 = .ok (.ireturn, 1) := by decide +kernel
theorem dX9_from_0 : decode cX9_from 0 = .ok (.iload_n 1, 1) := by decide +kernel
theorem dX9_from_1 : decode cX9_from 1 = .ok (.i2l, 1) := by decide +kernel
theorem dX9_from_2 : decode cX9_from 2 = .ok (.lconst 0, 1) := by decide +kernel
theorem dX9_from_3 : decode cX9_from 3 = .ok (.lconst 1, 1) := by decide +kernel
theorem dX9_from_4 : decode cX9_from 4 = .ok (.invokestatic 59, 3) := by decide +kernel
theorem dX9_from_7 : decode cX9_from 7 = .ok (.ifCond .ne 10, 3) := by decide +kernel
theorem dX9_from_10 : decode cX9_from 10 = .ok (.aload_n 0, 1) := by decide +kernel
theorem dX9_from_11 : decode cX9_from 11 = .ok (.bipush (-2), 2) := by decide +kernel
theorem dX9_from_13 : decode cX9_from 13 = .ok (.invokevirtual 78, 3) := by decide +kernel
theorem dX9_from_16 : decode cX9_from 16 = .ok (.ireturn, 1) := by decide +kernel
theorem dX9_from_17 : decode cX9_from 17 = .ok (.aload_n 0, 1) := by decide +kernel
theorem dX9_from_18 : decode cX9_from 18 = .ok (.getfield 16, 3) := by decide +kernel
theorem dX9_from_21 : decode cX9_from 21 = .ok (.iload_n 1, 1) := by decide +kernel
theorem dX9_from_22 : decode cX9_from 22 = .ok (.baload, 1) := by decide +kernel
theorem dX9_from_23 : decode cX9_from 23 = .ok (.ifCond .ne 8, 3) := by decide +kernel
theorem dX9_from_26 : decode cX9_from 26 = .ok (.aload_n 0, 1) := by decide +kernel
theorem dX9_from_27 : decode cX9_from 27 = .ok (.invokevirtual 162, 3) := by decide +kernel
theorem dX9_from_30 : decode cX9_from 30 = .ok (.ireturn, 1) := by decide +kernel
theorem dX9_from_31 : decode cX9_from 31 = .ok (.iconst 0, 1) := by decide +kernel
theorem dX9_from_32 : decode cX9_from 32 = .ok (.istore_n 2, 1) := by decide +kernel
theorem dX9_from_33 : decode cX9_from 33 = .ok (.iload_n 2, 1) := by decide +kernel
theorem dX9_from_34 : decode cX9_from 34 = .ok (.sipush 304, 3) := by decide +kernel
theorem dX9_from_37 : decode cX9_from 37 = .ok (.if_icmp .ge 27, 3) := by decide +kernel
theorem dX9_from_40 : decode cX9_from 40 = .ok (.aload_n 0, 1) := by decide +kernel
theorem dX9_from_41 : decode cX9_from 41 = .ok (.getfield 7, 3) := by decide +kernel
theorem dX9_from_44 : decode cX9_from 44 = .ok (.iload_n 2, 1) := by decide +kernel
theorem dX9_from_45 : decode cX9_from 45 = .ok (.aload_n 0, 1) := by decide +kernel
theorem dX9_from_46 : decode cX9_from 46 = .ok (.getfield 13, 3) := by decide +kernel
theorem dX9_from_49 : decode cX9_from 49 = .ok (.sipush 304, 3) := by decide +kernel
theorem dX9_from_52 : decode cX9_from 52 = .ok (.iload_n 1, 1) := by decide +kernel
theorem dX9_from_53 : decode cX9_from 53 = .ok (.imul, 1) := by decide +kernel
theorem dX9_from_54 : decode cX9_from 54 = .ok (.iload_n 2, 1) := by decide +kernel
theorem dX9_from_55 : decode cX9_from 55 = .ok (.iadd, 1) := by decide +kernel
theorem dX9_from_56 : decode cX9_from 56 = .ok (.iaload, 1) := by decide +kernel
theorem dX9_from_57 : decode cX9_from 57 = .ok (.iastore, 1) := by decide +kernel
theorem dX9_from_58 : decode cX9_from 58 = .ok (.iinc 2 1, 3) := by decide +kernel
theorem dX9_from_61 : decode cX9_from 61 = .ok (.goto (-28), 3) := by decide +kernel
theorem dX9_from_64 : decode cX9_from 64 = .ok (.iconst 1, 1) := by decide +kernel
theorem dX9_from_65 : decode cX9_from 65 = .ok (.ireturn, 1) := by decide +kernel
theorem dX9_status_0 : decode cX9_status 0 = .ok (.iload_n 1, 1) := by decide +kernel
theorem dX9_status_1 : decode cX9_status 1 = .ok (.i2l, 1) := by decide +kernel
theorem dX9_status_2 : decode cX9_status 2 = .ok (.lconst 0, 1) := by decide +kernel
theorem dX9_status_3 : decode cX9_status 3 = .ok (.ldc2_w 167, 3) := by decide +kernel
theorem dX9_status_6 : decode cX9_status 6 = .ok (.invokestatic 59, 3) := by decide +kernel
theorem dX9_status_9 : decode cX9_status 9 = .ok (.ifCond .eq 12, 3) := by decide +kernel
theorem dX9_status_12 : decode cX9_status 12 = .ok (.aload_n 0, 1) := by decide +kernel
theorem dX9_status_13 : decode cX9_status 13 = .ok (.getfield 20, 3) := by decide +kernel
theorem dX9_status_16 : decode cX9_status 16 = .ok (.iload_n 1, 1) := by decide +kernel
theorem dX9_status_17 : decode cX9_status 17 = .ok (.iaload, 1) := by decide +kernel
theorem dX9_status_18 : decode cX9_status 18 = .ok (.goto 8, 3) := by decide +kernel
theorem dX9_status_21 : decode cX9_status 21 = .ok (.aload_n 0, 1) := by decide +kernel
theorem dX9_status_22 : decode cX9_status 22 = .ok (.iconst (-1), 1) := by decide +kernel
theorem dX9_status_23 : decode cX9_status 23 = .ok (.invokevirtual 78, 3) := by decide +kernel
theorem dX9_status_26 : decode cX9_status 26 = .ok (.ireturn, 1) := by decide +kernel
theorem dX9_allKnow_0 : decode cX9_allKnow 0 = .ok (.iconst 0, 1) := by decide +kernel
theorem dX9_allKnow_1 : decode cX9_allKnow 1 = .ok (.istore_n 1, 1) := by decide +kernel
theorem dX9_allKnow_2 : decode cX9_allKnow 2 = .ok (.iconst 0, 1) := by decide +kernel
theorem dX9_allKnow_3 : decode cX9_allKnow 3 = .ok (.istore_n 2, 1) := by decide +kernel
theorem dX9_allKnow_4 : decode cX9_allKnow 4 = .ok (.iload_n 2, 1) := by decide +kernel
theorem dX9_allKnow_5 : decode cX9_allKnow 5 = .ok (.aload_n 0, 1) := by decide +kernel
theorem dX9_allKnow_6 : decode cX9_allKnow 6 = .ok (.invokevirtual 63, 3) := by decide +kernel
theorem dX9_allKnow_9 : decode cX9_allKnow 9 = .ok (.if_icmp .ge 21, 3) := by decide +kernel
theorem dX9_allKnow_12 : decode cX9_allKnow 12 = .ok (.iload_n 1, 1) := by decide +kernel
theorem dX9_allKnow_13 : decode cX9_allKnow 13 = .ok (.aload_n 0, 1) := by decide +kernel
theorem dX9_allKnow_14 : decode cX9_allKnow 14 = .ok (.getfield 7, 3) := by decide +kernel
theorem dX9_allKnow_17 : decode cX9_allKnow 17 = .ok (.bipush 6, 2) := by decide +kernel
theorem dX9_allKnow_19 : decode cX9_allKnow 19 = .ok (.iload_n 2, 1) := by decide +kernel
theorem dX9_allKnow_20 : decode cX9_allKnow 20 = .ok (.iadd, 1) := by decide +kernel
theorem dX9_allKnow_21 : decode cX9_allKnow 21 = .ok (.iaload, 1) := by decide +kernel
theorem dX9_allKnow_22 : decode cX9_allKnow 22 = .ok (.iadd, 1) := by decide +kernel
theorem dX9_allKnow_23 : decode cX9_allKnow 23 = .ok (.istore_n 1, 1) := by decide +kernel
theorem dX9_allKnow_24 : decode cX9_allKnow 24 = .ok (.iinc 2 1, 3) := by decide +kernel
theorem dX9_allKnow_27 : decode cX9_allKnow 27 = .ok (.goto (-23), 3) := by decide +kernel
theorem dX9_allKnow_30 : decode cX9_allKnow 30 = .ok (.iload_n 1, 1) := by decide +kernel
theorem dX9_allKnow_31 : decode cX9_allKnow 31 = .ok (.ireturn, 1) := by decide +kernel
theorem dX9_counted_0 : decode cX9_counted 0 = .ok (.iload_n 1, 1) := by decide +kernel
theorem dX9_counted_1 : decode cX9_counted 1 = .ok (.tableswitch 113 0 10 #[59, 64, 69, 77, 85, 96, 113, 113, 113, 101, 108], 59) := by decide +kernel
theorem dX9_counted_60 : decode cX9_counted 60 = .ok (.aload_n 0, 1) := by decide +kernel
theorem dX9_counted_61 : decode cX9_counted 61 = .ok (.invokevirtual 55, 3) := by decide +kernel
theorem dX9_counted_64 : decode cX9_counted 64 = .ok (.ireturn, 1) := by decide +kernel
theorem dX9_counted_65 : decode cX9_counted 65 = .ok (.aload_n 0, 1) := by decide +kernel
theorem dX9_counted_66 : decode cX9_counted 66 = .ok (.invokevirtual 63, 3) := by decide +kernel
theorem dX9_counted_69 : decode cX9_counted 69 = .ok (.ireturn, 1) := by decide +kernel
theorem dX9_counted_70 : decode cX9_counted 70 = .ok (.aload_n 0, 1) := by decide +kernel
theorem dX9_counted_71 : decode cX9_counted 71 = .ok (.getfield 7, 3) := by decide +kernel
theorem dX9_counted_74 : decode cX9_counted 74 = .ok (.bipush 13, 2) := by decide +kernel
theorem dX9_counted_76 : decode cX9_counted 76 = .ok (.iaload, 1) := by decide +kernel
theorem dX9_counted_77 : decode cX9_counted 77 = .ok (.ireturn, 1) := by decide +kernel
theorem dX9_counted_78 : decode cX9_counted 78 = .ok (.aload_n 0, 1) := by decide +kernel
theorem dX9_counted_79 : decode cX9_counted 79 = .ok (.getfield 7, 3) := by decide +kernel
theorem dX9_counted_82 : decode cX9_counted 82 = .ok (.bipush 12, 2) := by decide +kernel
theorem dX9_counted_84 : decode cX9_counted 84 = .ok (.iaload, 1) := by decide +kernel
theorem dX9_counted_85 : decode cX9_counted 85 = .ok (.ireturn, 1) := by decide +kernel
theorem dX9_counted_86 : decode cX9_counted 86 = .ok (.aload_n 0, 1) := by decide +kernel
theorem dX9_counted_87 : decode cX9_counted 87 = .ok (.getfield 7, 3) := by decide +kernel
theorem dX9_counted_90 : decode cX9_counted 90 = .ok (.invokestatic 133, 3) := by decide +kernel
theorem dX9_counted_93 : decode cX9_counted 93 = .ok (.invokestatic 183, 3) := by decide +kernel
theorem dX9_counted_96 : decode cX9_counted 96 = .ok (.ireturn, 1) := by decide +kernel
theorem dX9_counted_97 : decode cX9_counted 97 = .ok (.aload_n 0, 1) := by decide +kernel
theorem dX9_counted_98 : decode cX9_counted 98 = .ok (.invokevirtual 298, 3) := by decide +kernel
theorem dX9_counted_101 : decode cX9_counted 101 = .ok (.ireturn, 1) := by decide +kernel
theorem dX9_counted_102 : decode cX9_counted 102 = .ok (.aload_n 0, 1) := by decide +kernel
theorem dX9_counted_103 : decode cX9_counted 103 = .ok (.getfield 7, 3) := by decide +kernel
theorem dX9_counted_106 : decode cX9_counted 106 = .ok (.iconst 5, 1) := by decide +kernel
theorem dX9_counted_107 : decode cX9_counted 107 = .ok (.iaload, 1) := by decide +kernel
theorem dX9_counted_108 : decode cX9_counted 108 = .ok (.ireturn, 1) := by decide +kernel
theorem dX9_counted_109 : decode cX9_counted 109 = .ok (.aload_n 0, 1) := by decide +kernel
theorem dX9_counted_110 : decode cX9_counted 110 = .ok (.getfield 232, 3) := by decide +kernel
theorem dX9_counted_113 : decode cX9_counted 113 = .ok (.ireturn, 1) := by decide +kernel
theorem dX9_counted_114 : decode cX9_counted 114 = .ok (.aload_n 0, 1) := by decide +kernel
theorem dX9_counted_115 : decode cX9_counted 115 = .ok (.getfield 7, 3) := by decide +kernel
theorem dX9_counted_118 : decode cX9_counted 118 = .ok (.iconst 2, 1) := by decide +kernel
theorem dX9_counted_119 : decode cX9_counted 119 = .ok (.iload_n 1, 1) := by decide +kernel
theorem dX9_counted_120 : decode cX9_counted 120 = .ok (.iadd, 1) := by decide +kernel
theorem dX9_counted_121 : decode cX9_counted 121 = .ok (.bipush 6, 2) := by decide +kernel
theorem dX9_counted_123 : decode cX9_counted 123 = .ok (.isub, 1) := by decide +kernel
theorem dX9_counted_124 : decode cX9_counted 124 = .ok (.iaload, 1) := by decide +kernel
theorem dX9_counted_125 : decode cX9_counted 125 = .ok (.ireturn, 1) := by decide +kernel
theorem dX9_count_0 : decode cX9_count 0 = .ok (.iload_n 1, 1) := by decide +kernel
theorem dX9_count_1 : decode cX9_count 1 = .ok (.i2l, 1) := by decide +kernel
theorem dX9_count_2 : decode cX9_count 2 = .ok (.lconst 0, 1) := by decide +kernel
theorem dX9_count_3 : decode cX9_count 3 = .ok (.ldc2_w 210, 3) := by decide +kernel
theorem dX9_count_6 : decode cX9_count 6 = .ok (.invokestatic 59, 3) := by decide +kernel
theorem dX9_count_9 : decode cX9_count 9 = .ok (.ifCond .eq 11, 3) := by decide +kernel
theorem dX9_count_12 : decode cX9_count 12 = .ok (.aload_n 0, 1) := by decide +kernel
theorem dX9_count_13 : decode cX9_count 13 = .ok (.iload_n 1, 1) := by decide +kernel
theorem dX9_count_14 : decode cX9_count 14 = .ok (.invokevirtual 301, 3) := by decide +kernel
theorem dX9_count_17 : decode cX9_count 17 = .ok (.goto 9, 3) := by decide +kernel
theorem dX9_count_20 : decode cX9_count 20 = .ok (.aload_n 0, 1) := by decide +kernel
theorem dX9_count_21 : decode cX9_count 21 = .ok (.bipush (-2), 2) := by decide +kernel
theorem dX9_count_23 : decode cX9_count 23 = .ok (.invokevirtual 78, 3) := by decide +kernel
theorem dX9_count_26 : decode cX9_count 26 = .ok (.ireturn, 1) := by decide +kernel
theorem dX9_sums_0 : decode cX9_sums 0 = .ok (.lload_n 1, 1) := by decide +kernel
theorem dX9_sums_1 : decode cX9_sums 1 = .ok (.lstore 5, 2) := by decide +kernel
theorem dX9_sums_3 : decode cX9_sums 3 = .ok (.iconst 0, 1) := by decide +kernel
theorem dX9_sums_4 : decode cX9_sums 4 = .ok (.istore 7, 2) := by decide +kernel
theorem dX9_sums_6 : decode cX9_sums 6 = .ok (.iload 7, 2) := by decide +kernel
theorem dX9_sums_8 : decode cX9_sums 8 = .ok (.iload 4, 2) := by decide +kernel
theorem dX9_sums_10 : decode cX9_sums 10 = .ok (.if_icmp .ge 28, 3) := by decide +kernel
theorem dX9_sums_13 : decode cX9_sums 13 = .ok (.ldc2_w 304, 3) := by decide +kernel
theorem dX9_sums_16 : decode cX9_sums 16 = .ok (.lload 5, 2) := by decide +kernel
theorem dX9_sums_18 : decode cX9_sums 18 = .ok (.lmul, 1) := by decide +kernel
theorem dX9_sums_19 : decode cX9_sums 19 = .ok (.aload_n 0, 1) := by decide +kernel
theorem dX9_sums_20 : decode cX9_sums 20 = .ok (.getfield 7, 3) := by decide +kernel
theorem dX9_sums_23 : decode cX9_sums 23 = .ok (.iload_n 3, 1) := by decide +kernel
theorem dX9_sums_24 : decode cX9_sums 24 = .ok (.iload 7, 2) := by decide +kernel
theorem dX9_sums_26 : decode cX9_sums 26 = .ok (.iadd, 1) := by decide +kernel
theorem dX9_sums_27 : decode cX9_sums 27 = .ok (.iaload, 1) := by decide +kernel
theorem dX9_sums_28 : decode cX9_sums 28 = .ok (.i2l, 1) := by decide +kernel
theorem dX9_sums_29 : decode cX9_sums 29 = .ok (.ladd, 1) := by decide +kernel
theorem dX9_sums_30 : decode cX9_sums 30 = .ok (.lstore 5, 2) := by decide +kernel
theorem dX9_sums_32 : decode cX9_sums 32 = .ok (.iinc 7 1, 3) := by decide +kernel
theorem dX9_sums_35 : decode cX9_sums 35 = .ok (.goto (-29), 3) := by decide +kernel
theorem dX9_sums_38 : decode cX9_sums 38 = .ok (.lload 5, 2) := by decide +kernel
theorem dX9_sums_40 : decode cX9_sums 40 = .ok (.lreturn, 1) := by decide +kernel
theorem dX9_digest_0 : decode cX9_digest 0 = .ok (.ldc2_w 306, 3) := by decide +kernel
theorem dX9_digest_3 : decode cX9_digest 3 = .ok (.lstore_n 1, 1) := by decide +kernel
theorem dX9_digest_4 : decode cX9_digest 4 = .ok (.iconst 0, 1) := by decide +kernel
theorem dX9_digest_5 : decode cX9_digest 5 = .ok (.istore_n 3, 1) := by decide +kernel
theorem dX9_digest_6 : decode cX9_digest 6 = .ok (.iload_n 3, 1) := by decide +kernel
theorem dX9_digest_7 : decode cX9_digest 7 = .ok (.bipush 11, 2) := by decide +kernel
theorem dX9_digest_9 : decode cX9_digest 9 = .ok (.if_icmp .ge 22, 3) := by decide +kernel
theorem dX9_digest_12 : decode cX9_digest 12 = .ok (.ldc2_w 304, 3) := by decide +kernel
theorem dX9_digest_15 : decode cX9_digest 15 = .ok (.lload_n 1, 1) := by decide +kernel
theorem dX9_digest_16 : decode cX9_digest 16 = .ok (.lmul, 1) := by decide +kernel
theorem dX9_digest_17 : decode cX9_digest 17 = .ok (.aload_n 0, 1) := by decide +kernel
theorem dX9_digest_18 : decode cX9_digest 18 = .ok (.iload_n 3, 1) := by decide +kernel
theorem dX9_digest_19 : decode cX9_digest 19 = .ok (.invokevirtual 301, 3) := by decide +kernel
theorem dX9_digest_22 : decode cX9_digest 22 = .ok (.i2l, 1) := by decide +kernel
theorem dX9_digest_23 : decode cX9_digest 23 = .ok (.ladd, 1) := by decide +kernel
theorem dX9_digest_24 : decode cX9_digest 24 = .ok (.lstore_n 1, 1) := by decide +kernel
theorem dX9_digest_25 : decode cX9_digest 25 = .ok (.iinc 3 1, 3) := by decide +kernel
theorem dX9_digest_28 : decode cX9_digest 28 = .ok (.goto (-22), 3) := by decide +kernel
theorem dX9_digest_31 : decode cX9_digest 31 = .ok (.iconst 0, 1) := by decide +kernel
theorem dX9_digest_32 : decode cX9_digest 32 = .ok (.istore_n 3, 1) := by decide +kernel
theorem dX9_digest_33 : decode cX9_digest 33 = .ok (.iload_n 3, 1) := by decide +kernel
theorem dX9_digest_34 : decode cX9_digest 34 = .ok (.aload_n 0, 1) := by decide +kernel
theorem dX9_digest_35 : decode cX9_digest 35 = .ok (.invokevirtual 55, 3) := by decide +kernel
theorem dX9_digest_38 : decode cX9_digest 38 = .ok (.if_icmp .ge 73, 3) := by decide +kernel
theorem dX9_digest_41 : decode cX9_digest 41 = .ok (.ldc2_w 304, 3) := by decide +kernel
theorem dX9_digest_44 : decode cX9_digest 44 = .ok (.ldc2_w 304, 3) := by decide +kernel
theorem dX9_digest_47 : decode cX9_digest 47 = .ok (.lload_n 1, 1) := by decide +kernel
theorem dX9_digest_48 : decode cX9_digest 48 = .ok (.lmul, 1) := by decide +kernel
theorem dX9_digest_49 : decode cX9_digest 49 = .ok (.aload_n 0, 1) := by decide +kernel
theorem dX9_digest_50 : decode cX9_digest 50 = .ok (.getfield 7, 3) := by decide +kernel
theorem dX9_digest_53 : decode cX9_digest 53 = .ok (.bipush 30, 2) := by decide +kernel
theorem dX9_digest_55 : decode cX9_digest 55 = .ok (.iload_n 3, 1) := by decide +kernel
theorem dX9_digest_56 : decode cX9_digest 56 = .ok (.iadd, 1) := by decide +kernel
theorem dX9_digest_57 : decode cX9_digest 57 = .ok (.iaload, 1) := by decide +kernel
theorem dX9_digest_58 : decode cX9_digest 58 = .ok (.i2l, 1) := by decide +kernel
theorem dX9_digest_59 : decode cX9_digest 59 = .ok (.ladd, 1) := by decide +kernel
theorem dX9_digest_60 : decode cX9_digest 60 = .ok (.lmul, 1) := by decide +kernel
theorem dX9_digest_61 : decode cX9_digest 61 = .ok (.aload_n 0, 1) := by decide +kernel
theorem dX9_digest_62 : decode cX9_digest 62 = .ok (.getfield 7, 3) := by decide +kernel
theorem dX9_digest_65 : decode cX9_digest 65 = .ok (.bipush 14, 2) := by decide +kernel
theorem dX9_digest_67 : decode cX9_digest 67 = .ok (.iload_n 3, 1) := by decide +kernel
theorem dX9_digest_68 : decode cX9_digest 68 = .ok (.iadd, 1) := by decide +kernel
theorem dX9_digest_69 : decode cX9_digest 69 = .ok (.iaload, 1) := by decide +kernel
theorem dX9_digest_70 : decode cX9_digest 70 = .ok (.i2l, 1) := by decide +kernel
theorem dX9_digest_71 : decode cX9_digest 71 = .ok (.ladd, 1) := by decide +kernel
theorem dX9_digest_72 : decode cX9_digest 72 = .ok (.lstore_n 1, 1) := by decide +kernel
theorem dX9_digest_73 : decode cX9_digest 73 = .ok (.ldc2_w 304, 3) := by decide +kernel
theorem dX9_digest_76 : decode cX9_digest 76 = .ok (.ldc2_w 304, 3) := by decide +kernel
theorem dX9_digest_79 : decode cX9_digest 79 = .ok (.lload_n 1, 1) := by decide +kernel
theorem dX9_digest_80 : decode cX9_digest 80 = .ok (.lmul, 1) := by decide +kernel
theorem dX9_digest_81 : decode cX9_digest 81 = .ok (.aload_n 0, 1) := by decide +kernel
theorem dX9_digest_82 : decode cX9_digest 82 = .ok (.getfield 7, 3) := by decide +kernel
theorem dX9_digest_85 : decode cX9_digest 85 = .ok (.bipush 35, 2) := by decide +kernel
theorem dX9_digest_87 : decode cX9_digest 87 = .ok (.iload_n 3, 1) := by decide +kernel
theorem dX9_digest_88 : decode cX9_digest 88 = .ok (.iadd, 1) := by decide +kernel
theorem dX9_digest_89 : decode cX9_digest 89 = .ok (.iaload, 1) := by decide +kernel
theorem dX9_digest_90 : decode cX9_digest 90 = .ok (.i2l, 1) := by decide +kernel
theorem dX9_digest_91 : decode cX9_digest 91 = .ok (.ladd, 1) := by decide +kernel
theorem dX9_digest_92 : decode cX9_digest 92 = .ok (.lmul, 1) := by decide +kernel
theorem dX9_digest_93 : decode cX9_digest 93 = .ok (.aload_n 0, 1) := by decide +kernel
theorem dX9_digest_94 : decode cX9_digest 94 = .ok (.getfield 7, 3) := by decide +kernel
theorem dX9_digest_97 : decode cX9_digest 97 = .ok (.bipush 25, 2) := by decide +kernel
theorem dX9_digest_99 : decode cX9_digest 99 = .ok (.iload_n 3, 1) := by decide +kernel
theorem dX9_digest_100 : decode cX9_digest 100 = .ok (.iadd, 1) := by decide +kernel
theorem dX9_digest_101 : decode cX9_digest 101 = .ok (.iaload, 1) := by decide +kernel
theorem dX9_digest_102 : decode cX9_digest 102 = .ok (.i2l, 1) := by decide +kernel
theorem dX9_digest_103 : decode cX9_digest 103 = .ok (.ladd, 1) := by decide +kernel
theorem dX9_digest_104 : decode cX9_digest 104 = .ok (.lstore_n 1, 1) := by decide +kernel
theorem dX9_digest_105 : decode cX9_digest 105 = .ok (.iinc 3 1, 3) := by decide +kernel
theorem dX9_digest_108 : decode cX9_digest 108 = .ok (.goto (-75), 3) := by decide +kernel
theorem dX9_digest_111 : decode cX9_digest 111 = .ok (.iconst 0, 1) := by decide +kernel
theorem dX9_digest_112 : decode cX9_digest 112 = .ok (.istore_n 3, 1) := by decide +kernel
theorem dX9_digest_113 : decode cX9_digest 113 = .ok (.iload_n 3, 1) := by decide +kernel
theorem dX9_digest_114 : decode cX9_digest 114 = .ok (.aload_n 0, 1) := by decide +kernel
theorem dX9_digest_115 : decode cX9_digest 115 = .ok (.invokevirtual 63, 3) := by decide +kernel
theorem dX9_digest_118 : decode cX9_digest 118 = .ok (.if_icmp .ge 56, 3) := by decide +kernel
theorem dX9_digest_121 : decode cX9_digest 121 = .ok (.ldc2_w 304, 3) := by decide +kernel
theorem dX9_digest_124 : decode cX9_digest 124 = .ok (.ldc2_w 304, 3) := by decide +kernel
theorem dX9_digest_127 : decode cX9_digest 127 = .ok (.ldc2_w 304, 3) := by decide +kernel
theorem dX9_digest_130 : decode cX9_digest 130 = .ok (.lload_n 1, 1) := by decide +kernel
theorem dX9_digest_131 : decode cX9_digest 131 = .ok (.lmul, 1) := by decide +kernel
theorem dX9_digest_132 : decode cX9_digest 132 = .ok (.aload_n 0, 1) := by decide +kernel
theorem dX9_digest_133 : decode cX9_digest 133 = .ok (.getfield 7, 3) := by decide +kernel
theorem dX9_digest_136 : decode cX9_digest 136 = .ok (.bipush 40, 2) := by decide +kernel
theorem dX9_digest_138 : decode cX9_digest 138 = .ok (.iload_n 3, 1) := by decide +kernel
theorem dX9_digest_139 : decode cX9_digest 139 = .ok (.iadd, 1) := by decide +kernel
theorem dX9_digest_140 : decode cX9_digest 140 = .ok (.iaload, 1) := by decide +kernel
theorem dX9_digest_141 : decode cX9_digest 141 = .ok (.i2l, 1) := by decide +kernel
theorem dX9_digest_142 : decode cX9_digest 142 = .ok (.ladd, 1) := by decide +kernel
theorem dX9_digest_143 : decode cX9_digest 143 = .ok (.lmul, 1) := by decide +kernel
theorem dX9_digest_144 : decode cX9_digest 144 = .ok (.aload_n 0, 1) := by decide +kernel
theorem dX9_digest_145 : decode cX9_digest 145 = .ok (.getfield 7, 3) := by decide +kernel
theorem dX9_digest_148 : decode cX9_digest 148 = .ok (.bipush 19, 2) := by decide +kernel
theorem dX9_digest_150 : decode cX9_digest 150 = .ok (.iload_n 3, 1) := by decide +kernel
theorem dX9_digest_151 : decode cX9_digest 151 = .ok (.iadd, 1) := by decide +kernel
theorem dX9_digest_152 : decode cX9_digest 152 = .ok (.iaload, 1) := by decide +kernel
theorem dX9_digest_153 : decode cX9_digest 153 = .ok (.i2l, 1) := by decide +kernel
theorem dX9_digest_154 : decode cX9_digest 154 = .ok (.ladd, 1) := by decide +kernel
theorem dX9_digest_155 : decode cX9_digest 155 = .ok (.lmul, 1) := by decide +kernel
theorem dX9_digest_156 : decode cX9_digest 156 = .ok (.aload_n 0, 1) := by decide +kernel
theorem dX9_digest_157 : decode cX9_digest 157 = .ok (.getfield 7, 3) := by decide +kernel
theorem dX9_digest_160 : decode cX9_digest 160 = .ok (.bipush 6, 2) := by decide +kernel
theorem dX9_digest_162 : decode cX9_digest 162 = .ok (.iload_n 3, 1) := by decide +kernel
theorem dX9_digest_163 : decode cX9_digest 163 = .ok (.iadd, 1) := by decide +kernel
theorem dX9_digest_164 : decode cX9_digest 164 = .ok (.iaload, 1) := by decide +kernel
theorem dX9_digest_165 : decode cX9_digest 165 = .ok (.i2l, 1) := by decide +kernel
theorem dX9_digest_166 : decode cX9_digest 166 = .ok (.ladd, 1) := by decide +kernel
theorem dX9_digest_167 : decode cX9_digest 167 = .ok (.lstore_n 1, 1) := by decide +kernel
theorem dX9_digest_168 : decode cX9_digest 168 = .ok (.iinc 3 1, 3) := by decide +kernel
theorem dX9_digest_171 : decode cX9_digest 171 = .ok (.goto (-58), 3) := by decide +kernel
theorem dX9_digest_174 : decode cX9_digest 174 = .ok (.aload_n 0, 1) := by decide +kernel
theorem dX9_digest_175 : decode cX9_digest 175 = .ok (.lload_n 1, 1) := by decide +kernel
theorem dX9_digest_176 : decode cX9_digest 176 = .ok (.bipush 46, 2) := by decide +kernel
theorem dX9_digest_178 : decode cX9_digest 178 = .ok (.iconst 2, 1) := by decide +kernel
theorem dX9_digest_179 : decode cX9_digest 179 = .ok (.aload_n 0, 1) := by decide +kernel
theorem dX9_digest_180 : decode cX9_digest 180 = .ok (.getfield 7, 3) := by decide +kernel
theorem dX9_digest_183 : decode cX9_digest 183 = .ok (.iconst 2, 1) := by decide +kernel
theorem dX9_digest_184 : decode cX9_digest 184 = .ok (.iaload, 1) := by decide +kernel
theorem dX9_digest_185 : decode cX9_digest 185 = .ok (.imul, 1) := by decide +kernel
theorem dX9_digest_186 : decode cX9_digest 186 = .ok (.invokevirtual 308, 3) := by decide +kernel
theorem dX9_digest_189 : decode cX9_digest 189 = .ok (.lstore_n 1, 1) := by decide +kernel
theorem dX9_digest_190 : decode cX9_digest 190 = .ok (.aload_n 0, 1) := by decide +kernel
theorem dX9_digest_191 : decode cX9_digest 191 = .ok (.lload_n 1, 1) := by decide +kernel
theorem dX9_digest_192 : decode cX9_digest 192 = .ok (.bipush 58, 2) := by decide +kernel
theorem dX9_digest_194 : decode cX9_digest 194 = .ok (.iconst 5, 1) := by decide +kernel
theorem dX9_digest_195 : decode cX9_digest 195 = .ok (.aload_n 0, 1) := by decide +kernel
theorem dX9_digest_196 : decode cX9_digest 196 = .ok (.getfield 7, 3) := by decide +kernel
theorem dX9_digest_199 : decode cX9_digest 199 = .ok (.iconst 3, 1) := by decide +kernel
theorem dX9_digest_200 : decode cX9_digest 200 = .ok (.iaload, 1) := by decide +kernel
theorem dX9_digest_201 : decode cX9_digest 201 = .ok (.imul, 1) := by decide +kernel
theorem dX9_digest_202 : decode cX9_digest 202 = .ok (.invokevirtual 308, 3) := by decide +kernel
theorem dX9_digest_205 : decode cX9_digest 205 = .ok (.lstore_n 1, 1) := by decide +kernel
theorem dX9_digest_206 : decode cX9_digest 206 = .ok (.aload_n 0, 1) := by decide +kernel
theorem dX9_digest_207 : decode cX9_digest 207 = .ok (.lload_n 1, 1) := by decide +kernel
theorem dX9_digest_208 : decode cX9_digest 208 = .ok (.bipush 88, 2) := by decide +kernel
theorem dX9_digest_210 : decode cX9_digest 210 = .ok (.iconst 4, 1) := by decide +kernel
theorem dX9_digest_211 : decode cX9_digest 211 = .ok (.aload_n 0, 1) := by decide +kernel
theorem dX9_digest_212 : decode cX9_digest 212 = .ok (.getfield 7, 3) := by decide +kernel
theorem dX9_digest_215 : decode cX9_digest 215 = .ok (.iconst 4, 1) := by decide +kernel
theorem dX9_digest_216 : decode cX9_digest 216 = .ok (.iaload, 1) := by decide +kernel
theorem dX9_digest_217 : decode cX9_digest 217 = .ok (.imul, 1) := by decide +kernel
theorem dX9_digest_218 : decode cX9_digest 218 = .ok (.invokevirtual 308, 3) := by decide +kernel
theorem dX9_digest_221 : decode cX9_digest 221 = .ok (.lstore_n 1, 1) := by decide +kernel
theorem dX9_digest_222 : decode cX9_digest 222 = .ok (.ldc2_w 304, 3) := by decide +kernel
theorem dX9_digest_225 : decode cX9_digest 225 = .ok (.ldc2_w 304, 3) := by decide +kernel
theorem dX9_digest_228 : decode cX9_digest 228 = .ok (.lload_n 1, 1) := by decide +kernel
theorem dX9_digest_229 : decode cX9_digest 229 = .ok (.lmul, 1) := by decide +kernel
theorem dX9_digest_230 : decode cX9_digest 230 = .ok (.aload_n 0, 1) := by decide +kernel
theorem dX9_digest_231 : decode cX9_digest 231 = .ok (.getfield 207, 3) := by decide +kernel
theorem dX9_digest_234 : decode cX9_digest 234 = .ok (.ladd, 1) := by decide +kernel
theorem dX9_digest_235 : decode cX9_digest 235 = .ok (.lmul, 1) := by decide +kernel
theorem dX9_digest_236 : decode cX9_digest 236 = .ok (.aload_n 0, 1) := by decide +kernel
theorem dX9_digest_237 : decode cX9_digest 237 = .ok (.getfield 23, 3) := by decide +kernel
theorem dX9_digest_240 : decode cX9_digest 240 = .ok (.ladd, 1) := by decide +kernel
theorem dX9_digest_241 : decode cX9_digest 241 = .ok (.lreturn, 1) := by decide +kernel
