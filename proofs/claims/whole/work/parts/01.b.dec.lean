theorem dX0_init_0 : decode cX0_init 0 = .ok (.aload_n 0, 1) := by decide +kernel
theorem dX0_init_1 : decode cX0_init 1 = .ok (.invokespecial 1, 3) := by decide +kernel
theorem dX0_init_4 : decode cX0_init 4 = .ok (.aload_n 0, 1) := by decide +kernel
theorem dX0_init_5 : decode cX0_init 5 = .ok (.new 7, 3) := by decide +kernel
theorem dX0_init_8 : decode cX0_init 8 = .ok (.dup, 1) := by decide +kernel
theorem dX0_init_9 : decode cX0_init 9 = .ok (.invokespecial 9, 3) := by decide +kernel
theorem dX0_init_12 : decode cX0_init 12 = .ok (.putfield 10, 3) := by decide +kernel
theorem dX0_init_15 : decode cX0_init 15 = .ok (.aload_n 0, 1) := by decide +kernel
theorem dX0_init_16 : decode cX0_init 16 = .ok (.new 16, 3) := by decide +kernel
theorem dX0_init_19 : decode cX0_init 19 = .ok (.dup, 1) := by decide +kernel
theorem dX0_init_20 : decode cX0_init 20 = .ok (.invokespecial 18, 3) := by decide +kernel
theorem dX0_init_23 : decode cX0_init 23 = .ok (.putfield 19, 3) := by decide +kernel
theorem dX0_init_26 : decode cX0_init 26 = .ok (.aload_n 0, 1) := by decide +kernel
theorem dX0_init_27 : decode cX0_init 27 = .ok (.new 23, 3) := by decide +kernel
theorem dX0_init_30 : decode cX0_init 30 = .ok (.dup, 1) := by decide +kernel
theorem dX0_init_31 : decode cX0_init 31 = .ok (.invokespecial 25, 3) := by decide +kernel
theorem dX0_init_34 : decode cX0_init 34 = .ok (.putfield 26, 3) := by decide +kernel
theorem dX0_init_37 : decode cX0_init 37 = .ok (.aload_n 0, 1) := by decide +kernel
theorem dX0_init_38 : decode cX0_init 38 = .ok (.new 23, 3) := by decide +kernel
theorem dX0_init_41 : decode cX0_init 41 = .ok (.dup, 1) := by decide +kernel
theorem dX0_init_42 : decode cX0_init 42 = .ok (.invokespecial 25, 3) := by decide +kernel
theorem dX0_init_45 : decode cX0_init 45 = .ok (.putfield 30, 3) := by decide +kernel
theorem dX0_init_48 : decode cX0_init 48 = .ok (.aload_n 0, 1) := by decide +kernel
theorem dX0_init_49 : decode cX0_init 49 = .ok (.new 23, 3) := by decide +kernel
theorem dX0_init_52 : decode cX0_init 52 = .ok (.dup, 1) := by decide +kernel
theorem dX0_init_53 : decode cX0_init 53 = .ok (.invokespecial 25, 3) := by decide +kernel
theorem dX0_init_56 : decode cX0_init 56 = .ok (.putfield 33, 3) := by decide +kernel
theorem dX0_init_59 : decode cX0_init 59 = .ok (.return_, 1) := by decide +kernel
theorem dX0_makeEmpty_0 : decode cX0_makeEmpty 0 = .ok (.aload_n 0, 1) := by decide +kernel
theorem dX0_makeEmpty_1 : decode cX0_makeEmpty 1 = .ok (.getfield 10, 3) := by decide +kernel
theorem dX0_makeEmpty_4 : decode cX0_makeEmpty 4 = .ok (.invokevirtual 36, 3) := by decide +kernel
theorem dX0_makeEmpty_7 : decode cX0_makeEmpty 7 = .ok (.aload_n 0, 1) := by decide +kernel
theorem dX0_makeEmpty_8 : decode cX0_makeEmpty 8 = .ok (.getfield 19, 3) := by decide +kernel
theorem dX0_makeEmpty_11 : decode cX0_makeEmpty 11 = .ok (.iconst 0, 1) := by decide +kernel
theorem dX0_makeEmpty_12 : decode cX0_makeEmpty 12 = .ok (.putfield 39, 3) := by decide +kernel
theorem dX0_makeEmpty_15 : decode cX0_makeEmpty 15 = .ok (.aload_n 0, 1) := by decide +kernel
theorem dX0_makeEmpty_16 : decode cX0_makeEmpty 16 = .ok (.getfield 26, 3) := by decide +kernel
theorem dX0_makeEmpty_19 : decode cX0_makeEmpty 19 = .ok (.iconst 0, 1) := by decide +kernel
theorem dX0_makeEmpty_20 : decode cX0_makeEmpty 20 = .ok (.putfield 43, 3) := by decide +kernel
theorem dX0_makeEmpty_23 : decode cX0_makeEmpty 23 = .ok (.aload_n 0, 1) := by decide +kernel
theorem dX0_makeEmpty_24 : decode cX0_makeEmpty 24 = .ok (.getfield 30, 3) := by decide +kernel
theorem dX0_makeEmpty_27 : decode cX0_makeEmpty 27 = .ok (.iconst 0, 1) := by decide +kernel
theorem dX0_makeEmpty_28 : decode cX0_makeEmpty 28 = .ok (.putfield 43, 3) := by decide +kernel
theorem dX0_makeEmpty_31 : decode cX0_makeEmpty 31 = .ok (.aload_n 0, 1) := by decide +kernel
theorem dX0_makeEmpty_32 : decode cX0_makeEmpty 32 = .ok (.getfield 33, 3) := by decide +kernel
theorem dX0_makeEmpty_35 : decode cX0_makeEmpty 35 = .ok (.iconst 0, 1) := by decide +kernel
theorem dX0_makeEmpty_36 : decode cX0_makeEmpty 36 = .ok (.putfield 43, 3) := by decide +kernel
theorem dX0_makeEmpty_39 : decode cX0_makeEmpty 39 = .ok (.return_, 1) := by decide +kernel
theorem dX0_copyOf_0 : decode cX0_copyOf 0 = .ok (.aload_n 0, 1) := by decide +kernel
theorem dX0_copyOf_1 : decode cX0_copyOf 1 = .ok (.getfield 10, 3) := by decide +kernel
theorem dX0_copyOf_4 : decode cX0_copyOf 4 = .ok (.aload_n 1, 1) := by decide +kernel
theorem dX0_copyOf_5 : decode cX0_copyOf 5 = .ok (.getfield 10, 3) := by decide +kernel
theorem dX0_copyOf_8 : decode cX0_copyOf 8 = .ok (.invokevirtual 44, 3) := by decide +kernel
theorem dX0_copyOf_11 : decode cX0_copyOf 11 = .ok (.aload_n 0, 1) := by decide +kernel
theorem dX0_copyOf_12 : decode cX0_copyOf 12 = .ok (.getfield 19, 3) := by decide +kernel
theorem dX0_copyOf_15 : decode cX0_copyOf 15 = .ok (.aload_n 1, 1) := by decide +kernel
theorem dX0_copyOf_16 : decode cX0_copyOf 16 = .ok (.getfield 19, 3) := by decide +kernel
theorem dX0_copyOf_19 : decode cX0_copyOf 19 = .ok (.invokevirtual 48, 3) := by decide +kernel
theorem dX0_copyOf_22 : decode cX0_copyOf 22 = .ok (.aload_n 0, 1) := by decide +kernel
theorem dX0_copyOf_23 : decode cX0_copyOf 23 = .ok (.getfield 26, 3) := by decide +kernel
theorem dX0_copyOf_26 : decode cX0_copyOf 26 = .ok (.aload_n 1, 1) := by decide +kernel
theorem dX0_copyOf_27 : decode cX0_copyOf 27 = .ok (.getfield 26, 3) := by decide +kernel
theorem dX0_copyOf_30 : decode cX0_copyOf 30 = .ok (.invokevirtual 51, 3) := by decide +kernel
theorem dX0_copyOf_33 : decode cX0_copyOf 33 = .ok (.aload_n 0, 1) := by decide +kernel
theorem dX0_copyOf_34 : decode cX0_copyOf 34 = .ok (.getfield 30, 3) := by decide +kernel
theorem dX0_copyOf_37 : decode cX0_copyOf 37 = .ok (.aload_n 1, 1) := by decide +kernel
theorem dX0_copyOf_38 : decode cX0_copyOf 38 = .ok (.getfield 30, 3) := by decide +kernel
theorem dX0_copyOf_41 : decode cX0_copyOf 41 = .ok (.invokevirtual 51, 3) := by decide +kernel
theorem dX0_copyOf_44 : decode cX0_copyOf 44 = .ok (.aload_n 0, 1) := by decide +kernel
theorem dX0_copyOf_45 : decode cX0_copyOf 45 = .ok (.getfield 33, 3) := by decide +kernel
theorem dX0_copyOf_48 : decode cX0_copyOf 48 = .ok (.aload_n 1, 1) := by decide +kernel
theorem dX0_copyOf_49 : decode cX0_copyOf 49 = .ok (.getfield 33, 3) := by decide +kernel
theorem dX0_copyOf_52 : decode cX0_copyOf 52 = .ok (.invokevirtual 51, 3) := by decide +kernel
theorem dX0_copyOf_55 : decode cX0_copyOf 55 = .ok (.return_, 1) := by decide +kernel
theorem dX1_pullBy_0 : decode cX1_pullBy 0 = .ok (.iconst 0, 1) := by decide +kernel
theorem dX1_pullBy_1 : decode cX1_pullBy 1 = .ok (.iconst 2, 1) := by decide +kernel
theorem dX1_pullBy_2 : decode cX1_pullBy 2 = .ok (.iload_n 1, 1) := by decide +kernel
theorem dX1_pullBy_3 : decode cX1_pullBy 3 = .ok (.imul, 1) := by decide +kernel
theorem dX1_pullBy_4 : decode cX1_pullBy 4 = .ok (.iload_n 2, 1) := by decide +kernel
theorem dX1_pullBy_5 : decode cX1_pullBy 5 = .ok (.isub, 1) := by decide +kernel
theorem dX1_pullBy_6 : decode cX1_pullBy 6 = .ok (.invokestatic 7, 3) := by decide +kernel
theorem dX1_pullBy_9 : decode cX1_pullBy 9 = .ok (.istore 4, 2) := by decide +kernel
theorem dX1_pullBy_11 : decode cX1_pullBy 11 = .ok (.iload_n 3, 1) := by decide +kernel
theorem dX1_pullBy_12 : decode cX1_pullBy 12 = .ok (.iconst 2, 1) := by decide +kernel
theorem dX1_pullBy_13 : decode cX1_pullBy 13 = .ok (.irem, 1) := by decide +kernel
theorem dX1_pullBy_14 : decode cX1_pullBy 14 = .ok (.ifCond .ne 10, 3) := by decide +kernel
theorem dX1_pullBy_17 : decode cX1_pullBy 17 = .ok (.iload 4, 2) := by decide +kernel
theorem dX1_pullBy_19 : decode cX1_pullBy 19 = .ok (.iconst 3, 1) := by decide +kernel
theorem dX1_pullBy_20 : decode cX1_pullBy 20 = .ok (.iadd, 1) := by decide +kernel
theorem dX1_pullBy_21 : decode cX1_pullBy 21 = .ok (.goto 5, 3) := by decide +kernel
theorem dX1_pullBy_24 : decode cX1_pullBy 24 = .ok (.iload 4, 2) := by decide +kernel
theorem dX1_pullBy_26 : decode cX1_pullBy 26 = .ok (.istore 5, 2) := by decide +kernel
theorem dX1_pullBy_28 : decode cX1_pullBy 28 = .ok (.iload_n 2, 1) := by decide +kernel
theorem dX1_pullBy_29 : decode cX1_pullBy 29 = .ok (.iconst 5, 1) := by decide +kernel
theorem dX1_pullBy_30 : decode cX1_pullBy 30 = .ok (.if_icmp .le 7, 3) := by decide +kernel
theorem dX1_pullBy_33 : decode cX1_pullBy 33 = .ok (.iconst 0, 1) := by decide +kernel
theorem dX1_pullBy_34 : decode cX1_pullBy 34 = .ok (.goto 5, 3) := by decide +kernel
theorem dX1_pullBy_37 : decode cX1_pullBy 37 = .ok (.iload 4, 2) := by decide +kernel
theorem dX1_pullBy_39 : decode cX1_pullBy 39 = .ok (.istore 6, 2) := by decide +kernel
theorem dX1_pullBy_41 : decode cX1_pullBy 41 = .ok (.bipush 30, 2) := by decide +kernel
theorem dX1_pullBy_43 : decode cX1_pullBy 43 = .ok (.iconst 2, 1) := by decide +kernel
theorem dX1_pullBy_44 : decode cX1_pullBy 44 = .ok (.iload 5, 2) := by decide +kernel
theorem dX1_pullBy_46 : decode cX1_pullBy 46 = .ok (.imul, 1) := by decide +kernel
theorem dX1_pullBy_47 : decode cX1_pullBy 47 = .ok (.invokestatic 13, 3) := by decide +kernel
theorem dX1_pullBy_50 : decode cX1_pullBy 50 = .ok (.istore 7, 2) := by decide +kernel
theorem dX1_pullBy_52 : decode cX1_pullBy 52 = .ok (.iload_n 0, 1) := by decide +kernel
theorem dX1_pullBy_53 : decode cX1_pullBy 53 = .ok (.tableswitch 73 1 5 #[35, 38, 41, 44, 57], 35) := by decide +kernel
theorem dX1_pullBy_88 : decode cX1_pullBy 88 = .ok (.iload 5, 2) := by decide +kernel
theorem dX1_pullBy_90 : decode cX1_pullBy 90 = .ok (.ireturn, 1) := by decide +kernel
theorem dX1_pullBy_91 : decode cX1_pullBy 91 = .ok (.iload 6, 2) := by decide +kernel
theorem dX1_pullBy_93 : decode cX1_pullBy 93 = .ok (.ireturn, 1) := by decide +kernel
theorem dX1_pullBy_94 : decode cX1_pullBy 94 = .ok (.iload 7, 2) := by decide +kernel
theorem dX1_pullBy_96 : decode cX1_pullBy 96 = .ok (.ireturn, 1) := by decide +kernel
theorem dX1_pullBy_97 : decode cX1_pullBy 97 = .ok (.iload_n 3, 1) := by decide +kernel
theorem dX1_pullBy_98 : decode cX1_pullBy 98 = .ok (.bipush 6, 2) := by decide +kernel
theorem dX1_pullBy_100 : decode cX1_pullBy 100 = .ok (.if_icmp .lt 8, 3) := by decide +kernel
theorem dX1_pullBy_103 : decode cX1_pullBy 103 = .ok (.iload 7, 2) := by decide +kernel
theorem dX1_pullBy_105 : decode cX1_pullBy 105 = .ok (.goto 4, 3) := by decide +kernel
theorem dX1_pullBy_108 : decode cX1_pullBy 108 = .ok (.iconst 0, 1) := by decide +kernel
theorem dX1_pullBy_109 : decode cX1_pullBy 109 = .ok (.ireturn, 1) := by decide +kernel
theorem dX1_pullBy_110 : decode cX1_pullBy 110 = .ok (.iload 6, 2) := by decide +kernel
theorem dX1_pullBy_112 : decode cX1_pullBy 112 = .ok (.iconst 1, 1) := by decide +kernel
theorem dX1_pullBy_113 : decode cX1_pullBy 113 = .ok (.if_icmp .lt 10, 3) := by decide +kernel
theorem dX1_pullBy_116 : decode cX1_pullBy 116 = .ok (.iload 6, 2) := by decide +kernel
theorem dX1_pullBy_118 : decode cX1_pullBy 118 = .ok (.iconst 1, 1) := by decide +kernel
theorem dX1_pullBy_119 : decode cX1_pullBy 119 = .ok (.iadd, 1) := by decide +kernel
theorem dX1_pullBy_120 : decode cX1_pullBy 120 = .ok (.goto 5, 3) := by decide +kernel
theorem dX1_pullBy_123 : decode cX1_pullBy 123 = .ok (.iload 6, 2) := by decide +kernel
theorem dX1_pullBy_125 : decode cX1_pullBy 125 = .ok (.ireturn, 1) := by decide +kernel
theorem dX1_pullBy_126 : decode cX1_pullBy 126 = .ok (.iload 4, 2) := by decide +kernel
theorem dX1_pullBy_128 : decode cX1_pullBy 128 = .ok (.ireturn, 1) := by decide +kernel
theorem dX1_notesBy_0 : decode cX1_notesBy 0 = .ok (.iconst 0, 1) := by decide +kernel
theorem dX1_notesBy_1 : decode cX1_notesBy 1 = .ok (.bipush 12, 2) := by decide +kernel
theorem dX1_notesBy_3 : decode cX1_notesBy 3 = .ok (.iconst 2, 1) := by decide +kernel
theorem dX1_notesBy_4 : decode cX1_notesBy 4 = .ok (.iload_n 1, 1) := by decide +kernel
theorem dX1_notesBy_5 : decode cX1_notesBy 5 = .ok (.imul, 1) := by decide +kernel
theorem dX1_notesBy_6 : decode cX1_notesBy 6 = .ok (.isub, 1) := by decide +kernel
theorem dX1_notesBy_7 : decode cX1_notesBy 7 = .ok (.invokestatic 7, 3) := by decide +kernel
theorem dX1_notesBy_10 : decode cX1_notesBy 10 = .ok (.istore_n 2, 1) := by decide +kernel
theorem dX1_notesBy_11 : decode cX1_notesBy 11 = .ok (.iload_n 0, 1) := by decide +kernel
theorem dX1_notesBy_12 : decode cX1_notesBy 12 = .ok (.lookupswitch 38 #[(3, 28), (5, 32)], 28) := by decide +kernel
theorem dX1_notesBy_40 : decode cX1_notesBy 40 = .ok (.iload_n 2, 1) := by decide +kernel
theorem dX1_notesBy_41 : decode cX1_notesBy 41 = .ok (.iconst 4, 1) := by decide +kernel
theorem dX1_notesBy_42 : decode cX1_notesBy 42 = .ok (.iadd, 1) := by decide +kernel
theorem dX1_notesBy_43 : decode cX1_notesBy 43 = .ok (.ireturn, 1) := by decide +kernel
theorem dX1_notesBy_44 : decode cX1_notesBy 44 = .ok (.iload_n 2, 1) := by decide +kernel
theorem dX1_notesBy_45 : decode cX1_notesBy 45 = .ok (.iconst 1, 1) := by decide +kernel
theorem dX1_notesBy_46 : decode cX1_notesBy 46 = .ok (.iadd, 1) := by decide +kernel
theorem dX1_notesBy_47 : decode cX1_notesBy 47 = .ok (.iconst 2, 1) := by decide +kernel
theorem dX1_notesBy_48 : decode cX1_notesBy 48 = .ok (.idiv, 1) := by decide +kernel
theorem dX1_notesBy_49 : decode cX1_notesBy 49 = .ok (.ireturn, 1) := by decide +kernel
theorem dX1_notesBy_50 : decode cX1_notesBy 50 = .ok (.iload_n 2, 1) := by decide +kernel
theorem dX1_notesBy_51 : decode cX1_notesBy 51 = .ok (.ireturn, 1) := by decide +kernel
theorem dX1_drawnBy_0 : decode cX1_drawnBy 0 = .ok (.iconst 2, 1) := by decide +kernel
theorem dX1_drawnBy_1 : decode cX1_drawnBy 1 = .ok (.iload_n 1, 1) := by decide +kernel
theorem dX1_drawnBy_2 : decode cX1_drawnBy 2 = .ok (.imul, 1) := by decide +kernel
theorem dX1_drawnBy_3 : decode cX1_drawnBy 3 = .ok (.istore_n 2, 1) := by decide +kernel
theorem dX1_drawnBy_4 : decode cX1_drawnBy 4 = .ok (.iload_n 2, 1) := by decide +kernel
theorem dX1_drawnBy_5 : decode cX1_drawnBy 5 = .ok (.iconst 2, 1) := by decide +kernel
theorem dX1_drawnBy_6 : decode cX1_drawnBy 6 = .ok (.iadd, 1) := by decide +kernel
theorem dX1_drawnBy_7 : decode cX1_drawnBy 7 = .ok (.istore_n 3, 1) := by decide +kernel
theorem dX1_drawnBy_8 : decode cX1_drawnBy 8 = .ok (.iload_n 0, 1) := by decide +kernel
theorem dX1_drawnBy_9 : decode cX1_drawnBy 9 = .ok (.tableswitch 45 1 5 #[35, 37, 45, 39, 41], 35) := by decide +kernel
theorem dX1_drawnBy_44 : decode cX1_drawnBy 44 = .ok (.iload_n 2, 1) := by decide +kernel
theorem dX1_drawnBy_45 : decode cX1_drawnBy 45 = .ok (.ireturn, 1) := by decide +kernel
theorem dX1_drawnBy_46 : decode cX1_drawnBy 46 = .ok (.iconst 0, 1) := by decide +kernel
theorem dX1_drawnBy_47 : decode cX1_drawnBy 47 = .ok (.ireturn, 1) := by decide +kernel
theorem dX1_drawnBy_48 : decode cX1_drawnBy 48 = .ok (.iload_n 3, 1) := by decide +kernel
theorem dX1_drawnBy_49 : decode cX1_drawnBy 49 = .ok (.ireturn, 1) := by decide +kernel
theorem dX1_drawnBy_50 : decode cX1_drawnBy 50 = .ok (.iload_n 3, 1) := by decide +kernel
theorem dX1_drawnBy_51 : decode cX1_drawnBy 51 = .ok (.iconst 2, 1) := by decide +kernel
theorem dX1_drawnBy_52 : decode cX1_drawnBy 52 = .ok (.idiv, 1) := by decide +kernel
theorem dX1_drawnBy_53 : decode cX1_drawnBy 53 = .ok (.ireturn, 1) := by decide +kernel
theorem dX1_drawnBy_54 : decode cX1_drawnBy 54 = .ok (.iload_n 1, 1) := by decide +kernel
theorem dX1_drawnBy_55 : decode cX1_drawnBy 55 = .ok (.ireturn, 1) := by decide +kernel
theorem dX1_seesBy_0 : decode cX1_seesBy 0 = .ok (.iload_n 0, 1) := by decide +kernel
theorem dX1_seesBy_1 : decode cX1_seesBy 1 = .ok (.iload_n 1, 1) := by decide +kernel
theorem dX1_seesBy_2 : decode cX1_seesBy 2 = .ok (.invokestatic 16, 3) := by decide +kernel
theorem dX1_seesBy_5 : decode cX1_seesBy 5 = .ok (.iload_n 0, 1) := by decide +kernel
theorem dX1_seesBy_6 : decode cX1_seesBy 6 = .ok (.iload_n 2, 1) := by decide +kernel
theorem dX1_seesBy_7 : decode cX1_seesBy 7 = .ok (.invokestatic 21, 3) := by decide +kernel
theorem dX1_seesBy_10 : decode cX1_seesBy 10 = .ok (.if_icmp .le 7, 3) := by decide +kernel
theorem dX1_seesBy_13 : decode cX1_seesBy 13 = .ok (.iconst 1, 1) := by decide +kernel
theorem dX1_seesBy_14 : decode cX1_seesBy 14 = .ok (.goto 4, 3) := by decide +kernel
theorem dX1_seesBy_17 : decode cX1_seesBy 17 = .ok (.iconst 0, 1) := by decide +kernel
theorem dX1_seesBy_18 : decode cX1_seesBy 18 = .ok (.ireturn, 1) := by decide +kernel
theorem dX2_init_0 : decode cX2_init 0 = .ok (.aload_n 0, 1) := by decide +kernel
theorem dX2_init_1 : decode cX2_init 1 = .ok (.invokespecial 3, 3) := by decide +kernel
theorem dX2_init_4 : decode cX2_init 4 = .ok (.aload_n 0, 1) := by decide +kernel
theorem dX2_init_5 : decode cX2_init 5 = .ok (.iconst 5, 1) := by decide +kernel
theorem dX2_init_6 : decode cX2_init 6 = .ok (.newarray .int, 2) := by decide +kernel
theorem dX2_init_8 : decode cX2_init 8 = .ok (.putfield 9, 3) := by decide +kernel
theorem dX2_init_11 : decode cX2_init 11 = .ok (.aload_n 0, 1) := by decide +kernel
theorem dX2_init_12 : decode cX2_init 12 = .ok (.iconst 5, 1) := by decide +kernel
theorem dX2_init_13 : decode cX2_init 13 = .ok (.newarray .int, 2) := by decide +kernel
theorem dX2_init_15 : decode cX2_init 15 = .ok (.putfield 15, 3) := by decide +kernel
theorem dX2_init_18 : decode cX2_init 18 = .ok (.aload_n 0, 1) := by decide +kernel
theorem dX2_init_19 : decode cX2_init 19 = .ok (.iconst 5, 1) := by decide +kernel
theorem dX2_init_20 : decode cX2_init 20 = .ok (.newarray .int, 2) := by decide +kernel
theorem dX2_init_22 : decode cX2_init 22 = .ok (.putfield 18, 3) := by decide +kernel
theorem dX2_init_25 : decode cX2_init 25 = .ok (.aload_n 0, 1) := by decide +kernel
theorem dX2_init_26 : decode cX2_init 26 = .ok (.iconst 5, 1) := by decide +kernel
theorem dX2_init_27 : decode cX2_init 27 = .ok (.newarray .int, 2) := by decide +kernel
theorem dX2_init_29 : decode cX2_init 29 = .ok (.putfield 21, 3) := by decide +kernel
theorem dX2_init_32 : decode cX2_init 32 = .ok (.aload_n 0, 1) := by decide +kernel
theorem dX2_init_33 : decode cX2_init 33 = .ok (.bipush 6, 2) := by decide +kernel
theorem dX2_init_35 : decode cX2_init 35 = .ok (.newarray .int, 2) := by decide +kernel
theorem dX2_init_37 : decode cX2_init 37 = .ok (.putfield 24, 3) := by decide +kernel
theorem dX2_init_40 : decode cX2_init 40 = .ok (.aload_n 0, 1) := by decide +kernel
theorem dX2_init_41 : decode cX2_init 41 = .ok (.bipush 6, 2) := by decide +kernel
theorem dX2_init_43 : decode cX2_init 43 = .ok (.newarray .int, 2) := by decide +kernel
theorem dX2_init_45 : decode cX2_init 45 = .ok (.putfield 27, 3) := by decide +kernel
theorem dX2_init_48 : decode cX2_init 48 = .ok (.aload_n 0, 1) := by decide +kernel
theorem dX2_init_49 : decode cX2_init 49 = .ok (.bipush 6, 2) := by decide +kernel
theorem dX2_init_51 : decode cX2_init 51 = .ok (.newarray .int, 2) := by decide +kernel
theorem dX2_init_53 : decode cX2_init 53 = .ok (.putfield 30, 3) := by decide +kernel
theorem dX2_init_56 : decode cX2_init 56 = .ok (.return_, 1) := by decide +kernel
theorem dX2_makeEmpty_0 : decode cX2_makeEmpty 0 = .ok (.aload_n 0, 1) := by decide +kernel
theorem dX2_makeEmpty_1 : decode cX2_makeEmpty 1 = .ok (.iconst 0, 1) := by decide +kernel
theorem dX2_makeEmpty_2 : decode cX2_makeEmpty 2 = .ok (.putfield 33, 3) := by decide +kernel
theorem dX2_makeEmpty_5 : decode cX2_makeEmpty 5 = .ok (.aload_n 0, 1) := by decide +kernel
theorem dX2_makeEmpty_6 : decode cX2_makeEmpty 6 = .ok (.iconst 0, 1) := by decide +kernel
theorem dX2_makeEmpty_7 : decode cX2_makeEmpty 7 = .ok (.putfield 37, 3) := by decide +kernel
theorem dX2_makeEmpty_10 : decode cX2_makeEmpty 10 = .ok (.aload_n 0, 1) := by decide +kernel
theorem dX2_makeEmpty_11 : decode cX2_makeEmpty 11 = .ok (.iconst 0, 1) := by decide +kernel
theorem dX2_makeEmpty_12 : decode cX2_makeEmpty 12 = .ok (.putfield 40, 3) := by decide +kernel
theorem dX2_makeEmpty_15 : decode cX2_makeEmpty 15 = .ok (.aload_n 0, 1) := by decide +kernel
theorem dX2_makeEmpty_16 : decode cX2_makeEmpty 16 = .ok (.iconst 0, 1) := by decide +kernel
theorem dX2_makeEmpty_17 : decode cX2_makeEmpty 17 = .ok (.putfield 43, 3) := by decide +kernel
theorem dX2_makeEmpty_20 : decode cX2_makeEmpty 20 = .ok (.return_, 1) := by decide +kernel
theorem dX2_copyOf_0 : decode cX2_copyOf 0 = .ok (.aload_n 0, 1) := by decide +kernel
theorem dX2_copyOf_1 : decode cX2_copyOf 1 = .ok (.aload_n 1, 1) := by decide +kernel
theorem dX2_copyOf_2 : decode cX2_copyOf 2 = .ok (.getfield 33, 3) := by decide +kernel
theorem dX2_copyOf_5 : decode cX2_copyOf 5 = .ok (.putfield 33, 3) := by decide +kernel
theorem dX2_copyOf_8 : decode cX2_copyOf 8 = .ok (.aload_n 0, 1) := by decide +kernel
theorem dX2_copyOf_9 : decode cX2_copyOf 9 = .ok (.aload_n 1, 1) := by decide +kernel
theorem dX2_copyOf_10 : decode cX2_copyOf 10 = .ok (.getfield 37, 3) := by decide +kernel
theorem dX2_copyOf_13 : decode cX2_copyOf 13 = .ok (.putfield 37, 3) := by decide +kernel
theorem dX2_copyOf_16 : decode cX2_copyOf 16 = .ok (.aload_n 0, 1) := by decide +kernel
theorem dX2_copyOf_17 : decode cX2_copyOf 17 = .ok (.aload_n 1, 1) := by decide +kernel
theorem dX2_copyOf_18 : decode cX2_copyOf 18 = .ok (.getfield 40, 3) := by decide +kernel
theorem dX2_copyOf_21 : decode cX2_copyOf 21 = .ok (.putfield 40, 3) := by decide +kernel
theorem dX2_copyOf_24 : decode cX2_copyOf 24 = .ok (.aload_n 0, 1) := by decide +kernel
theorem dX2_copyOf_25 : decode cX2_copyOf 25 = .ok (.aload_n 1, 1) := by decide +kernel
theorem dX2_copyOf_26 : decode cX2_copyOf 26 = .ok (.getfield 43, 3) := by decide +kernel
theorem dX2_copyOf_29 : decode cX2_copyOf 29 = .ok (.putfield 43, 3) := by decide +kernel
theorem dX2_copyOf_32 : decode cX2_copyOf 32 = .ok (.iconst 0, 1) := by decide +kernel
theorem dX2_copyOf_33 : decode cX2_copyOf 33 = .ok (.istore_n 2, 1) := by decide +kernel
theorem dX2_copyOf_34 : decode cX2_copyOf 34 = .ok (.iload_n 2, 1) := by decide +kernel
theorem dX2_copyOf_35 : decode cX2_copyOf 35 = .ok (.aload_n 0, 1) := by decide +kernel
theorem dX2_copyOf_36 : decode cX2_copyOf 36 = .ok (.getfield 40, 3) := by decide +kernel
theorem dX2_copyOf_39 : decode cX2_copyOf 39 = .ok (.if_icmp .ge 57, 3) := by decide +kernel
theorem dX2_copyOf_42 : decode cX2_copyOf 42 = .ok (.aload_n 0, 1) := by decide +kernel
theorem dX2_copyOf_43 : decode cX2_copyOf 43 = .ok (.getfield 9, 3) := by decide +kernel
theorem dX2_copyOf_46 : decode cX2_copyOf 46 = .ok (.iload_n 2, 1) := by decide +kernel
theorem dX2_copyOf_47 : decode cX2_copyOf 47 = .ok (.aload_n 1, 1) := by decide +kernel
theorem dX2_copyOf_48 : decode cX2_copyOf 48 = .ok (.getfield 9, 3) := by decide +kernel
theorem dX2_copyOf_51 : decode cX2_copyOf 51 = .ok (.iload_n 2, 1) := by decide +kernel
theorem dX2_copyOf_52 : decode cX2_copyOf 52 = .ok (.iaload, 1) := by decide +kernel
theorem dX2_copyOf_53 : decode cX2_copyOf 53 = .ok (.iastore, 1) := by decide +kernel
theorem dX2_copyOf_54 : decode cX2_copyOf 54 = .ok (.aload_n 0, 1) := by decide +kernel
theorem dX2_copyOf_55 : decode cX2_copyOf 55 = .ok (.getfield 15, 3) := by decide +kernel
theorem dX2_copyOf_58 : decode cX2_copyOf 58 = .ok (.iload_n 2, 1) := by decide +kernel
theorem dX2_copyOf_59 : decode cX2_copyOf 59 = .ok (.aload_n 1, 1) := by decide +kernel
theorem dX2_copyOf_60 : decode cX2_copyOf 60 = .ok (.getfield 15, 3) := by decide +kernel
theorem dX2_copyOf_63 : decode cX2_copyOf 63 = .ok (.iload_n 2, 1) := by decide +kernel
theorem dX2_copyOf_64 : decode cX2_copyOf 64 = .ok (.iaload, 1) := by decide +kernel
theorem dX2_copyOf_65 : decode cX2_copyOf 65 = .ok (.iastore, 1) := by decide +kernel
theorem dX2_copyOf_66 : decode cX2_copyOf 66 = .ok (.aload_n 0, 1) := by decide +kernel
theorem dX2_copyOf_67 : decode cX2_copyOf 67 = .ok (.getfield 18, 3) := by decide +kernel
theorem dX2_copyOf_70 : decode cX2_copyOf 70 = .ok (.iload_n 2, 1) := by decide +kernel
theorem dX2_copyOf_71 : decode cX2_copyOf 71 = .ok (.aload_n 1, 1) := by decide +kernel
theorem dX2_copyOf_72 : decode cX2_copyOf 72 = .ok (.getfield 18, 3) := by decide +kernel
theorem dX2_copyOf_75 : decode cX2_copyOf 75 = .ok (.iload_n 2, 1) := by decide +kernel
theorem dX2_copyOf_76 : decode cX2_copyOf 76 = .ok (.iaload, 1) := by decide +kernel
theorem dX2_copyOf_77 : decode cX2_copyOf 77 = .ok (.iastore, 1) := by decide +kernel
theorem dX2_copyOf_78 : decode cX2_copyOf 78 = .ok (.aload_n 0, 1) := by decide +kernel
theorem dX2_copyOf_79 : decode cX2_copyOf 79 = .ok (.getfield 21, 3) := by decide +kernel
theorem dX2_copyOf_82 : decode cX2_copyOf 82 = .ok (.iload_n 2, 1) := by decide +kernel
theorem dX2_copyOf_83 : decode cX2_copyOf 83 = .ok (.aload_n 1, 1) := by decide +kernel
theorem dX2_copyOf_84 : decode cX2_copyOf 84 = .ok (.getfield 21, 3) := by decide +kernel
theorem dX2_copyOf_87 : decode cX2_copyOf 87 = .ok (.iload_n 2, 1) := by decide +kernel
theorem dX2_copyOf_88 : decode cX2_copyOf 88 = .ok (.iaload, 1) := by decide +kernel
theorem dX2_copyOf_89 : decode cX2_copyOf 89 = .ok (.iastore, 1) := by decide +kernel
theorem dX2_copyOf_90 : decode cX2_copyOf 90 = .ok (.iinc 2 1, 3) := by decide +kernel
theorem dX2_copyOf_93 : decode cX2_copyOf 93 = .ok (.goto (-59), 3) := by decide +kernel
theorem dX2_copyOf_96 : decode cX2_copyOf 96 = .ok (.iconst 0, 1) := by decide +kernel
theorem dX2_copyOf_97 : decode cX2_copyOf 97 = .ok (.istore_n 2, 1) := by decide +kernel
theorem dX2_copyOf_98 : decode cX2_copyOf 98 = .ok (.iload_n 2, 1) := by decide +kernel
theorem dX2_copyOf_99 : decode cX2_copyOf 99 = .ok (.aload_n 0, 1) := by decide +kernel
theorem dX2_copyOf_100 : decode cX2_copyOf 100 = .ok (.getfield 43, 3) := by decide +kernel
theorem dX2_copyOf_103 : decode cX2_copyOf 103 = .ok (.if_icmp .ge 45, 3) := by decide +kernel
theorem dX2_copyOf_106 : decode cX2_copyOf 106 = .ok (.aload_n 0, 1) := by decide +kernel
theorem dX2_copyOf_107 : decode cX2_copyOf 107 = .ok (.getfield 24, 3) := by decide +kernel
theorem dX2_copyOf_110 : decode cX2_copyOf 110 = .ok (.iload_n 2, 1) := by decide +kernel
theorem dX2_copyOf_111 : decode cX2_copyOf 111 = .ok (.aload_n 1, 1) := by decide +kernel
theorem dX2_copyOf_112 : decode cX2_copyOf 112 = .ok (.getfield 24, 3) := by decide +kernel
theorem dX2_copyOf_115 : decode cX2_copyOf 115 = .ok (.iload_n 2, 1) := by decide +kernel
theorem dX2_copyOf_116 : decode cX2_copyOf 116 = .ok (.iaload, 1) := by decide +kernel
theorem dX2_copyOf_117 : decode cX2_copyOf 117 = .ok (.iastore, 1) := by decide +kernel
theorem dX2_copyOf_118 : decode cX2_copyOf 118 = .ok (.aload_n 0, 1) := by decide +kernel
theorem dX2_copyOf_119 : decode cX2_copyOf 119 = .ok (.getfield 27, 3) := by decide +kernel
theorem dX2_copyOf_122 : decode cX2_copyOf 122 = .ok (.iload_n 2, 1) := by decide +kernel
theorem dX2_copyOf_123 : decode cX2_copyOf 123 = .ok (.aload_n 1, 1) := by decide +kernel
theorem dX2_copyOf_124 : decode cX2_copyOf 124 = .ok (.getfield 27, 3) := by decide +kernel
theorem dX2_copyOf_127 : decode cX2_copyOf 127 = .ok (.iload_n 2, 1) := by decide +kernel
theorem dX2_copyOf_128 : decode cX2_copyOf 128 = .ok (.iaload, 1) := by decide +kernel
theorem dX2_copyOf_129 : decode cX2_copyOf 129 = .ok (.iastore, 1) := by decide +kernel
theorem dX2_copyOf_130 : decode cX2_copyOf 130 = .ok (.aload_n 0, 1) := by decide +kernel
theorem dX2_copyOf_131 : decode cX2_copyOf 131 = .ok (.getfield 30, 3) := by decide +kernel
theorem dX2_copyOf_134 : decode cX2_copyOf 134 = .ok (.iload_n 2, 1) := by decide +kernel
theorem dX2_copyOf_135 : decode cX2_copyOf 135 = .ok (.aload_n 1, 1) := by decide +kernel
theorem dX2_copyOf_136 : decode cX2_copyOf 136 = .ok (.getfield 30, 3) := by decide +kernel
theorem dX2_copyOf_139 : decode cX2_copyOf 139 = .ok (.iload_n 2, 1) := by decide +kernel
theorem dX2_copyOf_140 : decode cX2_copyOf 140 = .ok (.iaload, 1) := by decide +kernel
theorem dX2_copyOf_141 : decode cX2_copyOf 141 = .ok (.iastore, 1) := by decide +kernel
theorem dX2_copyOf_142 : decode cX2_copyOf 142 = .ok (.iinc 2 1, 3) := by decide +kernel
theorem dX2_copyOf_145 : decode cX2_copyOf 145 = .ok (.goto (-47), 3) := by decide +kernel
theorem dX2_copyOf_148 : decode cX2_copyOf 148 = .ok (.return_, 1) := by decide +kernel
theorem dX2_hasShow_0 : decode cX2_hasShow 0 = .ok (.iload_n 1, 1) := by decide +kernel
theorem dX2_hasShow_1 : decode cX2_hasShow 1 = .ok (.ifCond .lt 15, 3) := by decide +kernel
theorem dX2_hasShow_4 : decode cX2_hasShow 4 = .ok (.iload_n 1, 1) := by decide +kernel
theorem dX2_hasShow_5 : decode cX2_hasShow 5 = .ok (.aload_n 0, 1) := by decide +kernel
theorem dX2_hasShow_6 : decode cX2_hasShow 6 = .ok (.getfield 40, 3) := by decide +kernel
theorem dX2_hasShow_9 : decode cX2_hasShow 9 = .ok (.if_icmp .ge 7, 3) := by decide +kernel
theorem dX2_hasShow_12 : decode cX2_hasShow 12 = .ok (.iconst 1, 1) := by decide +kernel
theorem dX2_hasShow_13 : decode cX2_hasShow 13 = .ok (.goto 4, 3) := by decide +kernel
theorem dX2_hasShow_16 : decode cX2_hasShow 16 = .ok (.iconst 0, 1) := by decide +kernel
theorem dX2_hasShow_17 : decode cX2_hasShow 17 = .ok (.ireturn, 1) := by decide +kernel
theorem dX2_hasWatcher_0 : decode cX2_hasWatcher 0 = .ok (.iload_n 1, 1) := by decide +kernel
theorem dX2_hasWatcher_1 : decode cX2_hasWatcher 1 = .ok (.ifCond .lt 15, 3) := by decide +kernel
theorem dX2_hasWatcher_4 : decode cX2_hasWatcher 4 = .ok (.iload_n 1, 1) := by decide +kernel
theorem dX2_hasWatcher_5 : decode cX2_hasWatcher 5 = .ok (.aload_n 0, 1) := by decide +kernel
theorem dX2_hasWatcher_6 : decode cX2_hasWatcher 6 = .ok (.getfield 43, 3) := by decide +kernel
theorem dX2_hasWatcher_9 : decode cX2_hasWatcher 9 = .ok (.if_icmp .ge 7, 3) := by decide +kernel
theorem dX2_hasWatcher_12 : decode cX2_hasWatcher 12 = .ok (.iconst 1, 1) := by decide +kernel
theorem dX2_hasWatcher_13 : decode cX2_hasWatcher 13 = .ok (.goto 4, 3) := by decide +kernel
theorem dX2_hasWatcher_16 : decode cX2_hasWatcher 16 = .ok (.iconst 0, 1) := by decide +kernel
theorem dX2_hasWatcher_17 : decode cX2_hasWatcher 17 = .ok (.ireturn, 1) := by decide +kernel
theorem dX2_addShow_0 : decode cX2_addShow 0 = .ok (.aload_n 0, 1) := by decide +kernel
theorem dX2_addShow_1 : decode cX2_addShow 1 = .ok (.getfield 40, 3) := by decide +kernel
theorem dX2_addShow_4 : decode cX2_addShow 4 = .ok (.iconst 5, 1) := by decide +kernel
theorem dX2_addShow_5 : decode cX2_addShow 5 = .ok (.if_icmp .lt 5, 3) := by decide +kernel
theorem dX2_addShow_8 : decode cX2_addShow 8 = .ok (.iconst (-1), 1) := by decide +kernel
theorem dX2_addShow_9 : decode cX2_addShow 9 = .ok (.ireturn, 1) := by decide +kernel
theorem dX2_addShow_10 : decode cX2_addShow 10 = .ok (.aload_n 0, 1) := by decide +kernel
theorem dX2_addShow_11 : decode cX2_addShow 11 = .ok (.getfield 9, 3) := by decide +kernel
theorem dX2_addShow_14 : decode cX2_addShow 14 = .ok (.aload_n 0, 1) := by decide +kernel
theorem dX2_addShow_15 : decode cX2_addShow 15 = .ok (.getfield 40, 3) := by decide +kernel
theorem dX2_addShow_18 : decode cX2_addShow 18 = .ok (.iload_n 1, 1) := by decide +kernel
theorem dX2_addShow_19 : decode cX2_addShow 19 = .ok (.iastore, 1) := by decide +kernel
theorem dX2_addShow_20 : decode cX2_addShow 20 = .ok (.aload_n 0, 1) := by decide +kernel
theorem dX2_addShow_21 : decode cX2_addShow 21 = .ok (.getfield 15, 3) := by decide +kernel
theorem dX2_addShow_24 : decode cX2_addShow 24 = .ok (.aload_n 0, 1) := by decide +kernel
theorem dX2_addShow_25 : decode cX2_addShow 25 = .ok (.getfield 40, 3) := by decide +kernel
theorem dX2_addShow_28 : decode cX2_addShow 28 = .ok (.iload_n 2, 1) := by decide +kernel
theorem dX2_addShow_29 : decode cX2_addShow 29 = .ok (.iastore, 1) := by decide +kernel
theorem dX2_addShow_30 : decode cX2_addShow 30 = .ok (.aload_n 0, 1) := by decide +kernel
theorem dX2_addShow_31 : decode cX2_addShow 31 = .ok (.getfield 18, 3) := by decide +kernel
theorem dX2_addShow_34 : decode cX2_addShow 34 = .ok (.aload_n 0, 1) := by decide +kernel
theorem dX2_addShow_35 : decode cX2_addShow 35 = .ok (.getfield 40, 3) := by decide +kernel
theorem dX2_addShow_38 : decode cX2_addShow 38 = .ok (.iload_n 3, 1) := by decide +kernel
theorem dX2_addShow_39 : decode cX2_addShow 39 = .ok (.iastore, 1) := by decide +kernel
theorem dX2_addShow_40 : decode cX2_addShow 40 = .ok (.aload_n 0, 1) := by decide +kernel
theorem dX2_addShow_41 : decode cX2_addShow 41 = .ok (.getfield 21, 3) := by decide +kernel
theorem dX2_addShow_44 : decode cX2_addShow 44 = .ok (.aload_n 0, 1) := by decide +kernel
theorem dX2_addShow_45 : decode cX2_addShow 45 = .ok (.getfield 40, 3) := by decide +kernel
theorem dX2_addShow_48 : decode cX2_addShow 48 = .ok (.iconst 1, 1) := by decide +kernel
theorem dX2_addShow_49 : decode cX2_addShow 49 = .ok (.iastore, 1) := by decide +kernel
theorem dX2_addShow_50 : decode cX2_addShow 50 = .ok (.aload_n 0, 1) := by decide +kernel
theorem dX2_addShow_51 : decode cX2_addShow 51 = .ok (.dup, 1) := by decide +kernel
theorem dX2_addShow_52 : decode cX2_addShow 52 = .ok (.getfield 40, 3) := by decide +kernel
theorem dX2_addShow_55 : decode cX2_addShow 55 = .ok (.dup_x1, 1) := by decide +kernel
theorem dX2_addShow_56 : decode cX2_addShow 56 = .ok (.iconst 1, 1) := by decide +kernel
theorem dX2_addShow_57 : decode cX2_addShow 57 = .ok (.iadd, 1) := by decide +kernel
theorem dX2_addShow_58 : decode cX2_addShow 58 = .ok (.putfield 40, 3) := by decide +kernel
theorem dX2_addShow_61 : decode cX2_addShow 61 = .ok (.ireturn, 1) := by decide +kernel
theorem dX2_addWatcher_0 : decode cX2_addWatcher 0 = .ok (.aload_n 0, 1) := by decide +kernel
theorem dX2_addWatcher_1 : decode cX2_addWatcher 1 = .ok (.getfield 43, 3) := by decide +kernel
theorem dX2_addWatcher_4 : decode cX2_addWatcher 4 = .ok (.bipush 6, 2) := by decide +kernel
theorem dX2_addWatcher_6 : decode cX2_addWatcher 6 = .ok (.if_icmp .lt 5, 3) := by decide +kernel
theorem dX2_addWatcher_9 : decode cX2_addWatcher 9 = .ok (.iconst (-1), 1) := by decide +kernel
theorem dX2_addWatcher_10 : decode cX2_addWatcher 10 = .ok (.ireturn, 1) := by decide +kernel
theorem dX2_addWatcher_11 : decode cX2_addWatcher 11 = .ok (.aload_n 0, 1) := by decide +kernel
theorem dX2_addWatcher_12 : decode cX2_addWatcher 12 = .ok (.getfield 24, 3) := by decide +kernel
theorem dX2_addWatcher_15 : decode cX2_addWatcher 15 = .ok (.aload_n 0, 1) := by decide +kernel
theorem dX2_addWatcher_16 : decode cX2_addWatcher 16 = .ok (.getfield 43, 3) := by decide +kernel
theorem dX2_addWatcher_19 : decode cX2_addWatcher 19 = .ok (.iload_n 1, 1) := by decide +kernel
theorem dX2_addWatcher_20 : decode cX2_addWatcher 20 = .ok (.iastore, 1) := by decide +kernel
theorem dX2_addWatcher_21 : decode cX2_addWatcher 21 = .ok (.aload_n 0, 1) := by decide +kernel
theorem dX2_addWatcher_22 : decode cX2_addWatcher 22 = .ok (.getfield 27, 3) := by decide +kernel
theorem dX2_addWatcher_25 : decode cX2_addWatcher 25 = .ok (.aload_n 0, 1) := by decide +kernel
theorem dX2_addWatcher_26 : decode cX2_addWatcher 26 = .ok (.getfield 43, 3) := by decide +kernel
theorem dX2_addWatcher_29 : decode cX2_addWatcher 29 = .ok (.iload_n 2, 1) := by decide +kernel
theorem dX2_addWatcher_30 : decode cX2_addWatcher 30 = .ok (.iastore, 1) := by decide +kernel
theorem dX2_addWatcher_31 : decode cX2_addWatcher 31 = .ok (.aload_n 0, 1) := by decide +kernel
theorem dX2_addWatcher_32 : decode cX2_addWatcher 32 = .ok (.getfield 30, 3) := by decide +kernel
theorem dX2_addWatcher_35 : decode cX2_addWatcher 35 = .ok (.aload_n 0, 1) := by decide +kernel
theorem dX2_addWatcher_36 : decode cX2_addWatcher 36 = .ok (.getfield 43, 3) := by decide +kernel
theorem dX2_addWatcher_39 : decode cX2_addWatcher 39 = .ok (.iconst 0, 1) := by decide +kernel
theorem dX2_addWatcher_40 : decode cX2_addWatcher 40 = .ok (.iastore, 1) := by decide +kernel
theorem dX2_addWatcher_41 : decode cX2_addWatcher 41 = .ok (.aload_n 0, 1) := by decide +kernel
theorem dX2_addWatcher_42 : decode cX2_addWatcher 42 = .ok (.dup, 1) := by decide +kernel
theorem dX2_addWatcher_43 : decode cX2_addWatcher 43 = .ok (.getfield 43, 3) := by decide +kernel
theorem dX2_addWatcher_46 : decode cX2_addWatcher 46 = .ok (.dup_x1, 1) := by decide +kernel
theorem dX2_addWatcher_47 : decode cX2_addWatcher 47 = .ok (.iconst 1, 1) := by decide +kernel
theorem dX2_addWatcher_48 : decode cX2_addWatcher 48 = .ok (.iadd, 1) := by decide +kernel
theorem dX2_addWatcher_49 : decode cX2_addWatcher 49 = .ok (.putfield 43, 3) := by decide +kernel
theorem dX2_addWatcher_52 : decode cX2_addWatcher 52 = .ok (.ireturn, 1) := by decide +kernel
theorem dX2_showPart_0 : decode cX2_showPart 0 = .ok (.iload_n 2, 1) := by decide +kernel
theorem dX2_showPart_1 : decode cX2_showPart 1 = .ok (.tableswitch 48 0 2 #[27, 34, 41], 27) := by decide +kernel
theorem dX2_showPart_28 : decode cX2_showPart 28 = .ok (.aload_n 0, 1) := by decide +kernel
theorem dX2_showPart_29 : decode cX2_showPart 29 = .ok (.getfield 9, 3) := by decide +kernel
theorem dX2_showPart_32 : decode cX2_showPart 32 = .ok (.iload_n 1, 1) := by decide +kernel
theorem dX2_showPart_33 : decode cX2_showPart 33 = .ok (.iaload, 1) := by decide +kernel
theorem dX2_showPart_34 : decode cX2_showPart 34 = .ok (.ireturn, 1) := by decide +kernel
theorem dX2_showPart_35 : decode cX2_showPart 35 = .ok (.aload_n 0, 1) := by decide +kernel
theorem dX2_showPart_36 : decode cX2_showPart 36 = .ok (.getfield 15, 3) := by decide +kernel
theorem dX2_showPart_39 : decode cX2_showPart 39 = .ok (.iload_n 1, 1) := by decide +kernel
theorem dX2_showPart_40 : decode cX2_showPart 40 = .ok (.iaload, 1) := by decide +kernel
theorem dX2_showPart_41 : decode cX2_showPart 41 = .ok (.ireturn, 1) := by decide +kernel
theorem dX2_showPart_42 : decode cX2_showPart 42 = .ok (.aload_n 0, 1) := by decide +kernel
theorem dX2_showPart_43 : decode cX2_showPart 43 = .ok (.getfield 18, 3) := by decide +kernel
theorem dX2_showPart_46 : decode cX2_showPart 46 = .ok (.iload_n 1, 1) := by decide +kernel
theorem dX2_showPart_47 : decode cX2_showPart 47 = .ok (.iaload, 1) := by decide +kernel
theorem dX2_showPart_48 : decode cX2_showPart 48 = .ok (.ireturn, 1) := by decide +kernel
theorem dX2_showPart_49 : decode cX2_showPart 49 = .ok (.aload_n 0, 1) := by decide +kernel
theorem dX2_showPart_50 : decode cX2_showPart 50 = .ok (.getfield 21, 3) := by decide +kernel
theorem dX2_showPart_53 : decode cX2_showPart 53 = .ok (.iload_n 1, 1) := by decide +kernel
theorem dX2_showPart_54 : decode cX2_showPart 54 = .ok (.iaload, 1) := by decide +kernel
theorem dX2_showPart_55 : decode cX2_showPart 55 = .ok (.ireturn, 1) := by decide +kernel
theorem dX2_watcherPart_0 : decode cX2_watcherPart 0 = .ok (.iload_n 2, 1) := by decide +kernel
theorem dX2_watcherPart_1 : decode cX2_watcherPart 1 = .ok (.lookupswitch 41 #[(0, 27), (1, 34)], 27) := by decide +kernel
theorem dX2_watcherPart_28 : decode cX2_watcherPart 28 = .ok (.aload_n 0, 1) := by decide +kernel
theorem dX2_watcherPart_29 : decode cX2_watcherPart 29 = .ok (.getfield 24, 3) := by decide +kernel
theorem dX2_watcherPart_32 : decode cX2_watcherPart 32 = .ok (.iload_n 1, 1) := by decide +kernel
theorem dX2_watcherPart_33 : decode cX2_watcherPart 33 = .ok (.iaload, 1) := by decide +kernel
theorem dX2_watcherPart_34 : decode cX2_watcherPart 34 = .ok (.ireturn, 1) := by decide +kernel
theorem dX2_watcherPart_35 : decode cX2_watcherPart 35 = .ok (.aload_n 0, 1) := by decide +kernel
theorem dX2_watcherPart_36 : decode cX2_watcherPart 36 = .ok (.getfield 27, 3) := by decide +kernel
theorem dX2_watcherPart_39 : decode cX2_watcherPart 39 = .ok (.iload_n 1, 1) := by decide +kernel
theorem dX2_watcherPart_40 : decode cX2_watcherPart 40 = .ok (.iaload, 1) := by decide +kernel
theorem dX2_watcherPart_41 : decode cX2_watcherPart 41 = .ok (.ireturn, 1) := by decide +kernel
theorem dX2_watcherPart_42 : decode cX2_watcherPart 42 = .ok (.aload_n 0, 1) := by decide +kernel
theorem dX2_watcherPart_43 : decode cX2_watcherPart 43 = .ok (.getfield 30, 3) := by decide +kernel
theorem dX2_watcherPart_46 : decode cX2_watcherPart 46 = .ok (.iload_n 1, 1) := by decide +kernel
theorem dX2_watcherPart_47 : decode cX2_watcherPart 47 = .ok (.iaload, 1) := by decide +kernel
theorem dX2_watcherPart_48 : decode cX2_watcherPart 48 = .ok (.ireturn, 1) := by decide +kernel
theorem dX2_onBits_0 : decode cX2_onBits 0 = .ok (.iconst 0, 1) := by decide +kernel
theorem dX2_onBits_1 : decode cX2_onBits 1 = .ok (.istore_n 1, 1) := by decide +kernel
theorem dX2_onBits_2 : decode cX2_onBits 2 = .ok (.iconst 0, 1) := by decide +kernel
theorem dX2_onBits_3 : decode cX2_onBits 3 = .ok (.istore_n 2, 1) := by decide +kernel
theorem dX2_onBits_4 : decode cX2_onBits 4 = .ok (.iload_n 2, 1) := by decide +kernel
theorem dX2_onBits_5 : decode cX2_onBits 5 = .ok (.aload_n 0, 1) := by decide +kernel
theorem dX2_onBits_6 : decode cX2_onBits 6 = .ok (.getfield 40, 3) := by decide +kernel
theorem dX2_onBits_9 : decode cX2_onBits 9 = .ok (.if_icmp .ge 20, 3) := by decide +kernel
theorem dX2_onBits_12 : decode cX2_onBits 12 = .ok (.iload_n 1, 1) := by decide +kernel
theorem dX2_onBits_13 : decode cX2_onBits 13 = .ok (.aload_n 0, 1) := by decide +kernel
theorem dX2_onBits_14 : decode cX2_onBits 14 = .ok (.getfield 21, 3) := by decide +kernel
theorem dX2_onBits_17 : decode cX2_onBits 17 = .ok (.iload_n 2, 1) := by decide +kernel
theorem dX2_onBits_18 : decode cX2_onBits 18 = .ok (.iaload, 1) := by decide +kernel
theorem dX2_onBits_19 : decode cX2_onBits 19 = .ok (.iload_n 2, 1) := by decide +kernel
theorem dX2_onBits_20 : decode cX2_onBits 20 = .ok (.ishl, 1) := by decide +kernel
theorem dX2_onBits_21 : decode cX2_onBits 21 = .ok (.ior, 1) := by decide +kernel
theorem dX2_onBits_22 : decode cX2_onBits 22 = .ok (.istore_n 1, 1) := by decide +kernel
theorem dX2_onBits_23 : decode cX2_onBits 23 = .ok (.iinc 2 1, 3) := by decide +kernel
theorem dX2_onBits_26 : decode cX2_onBits 26 = .ok (.goto (-22), 3) := by decide +kernel
theorem dX2_onBits_29 : decode cX2_onBits 29 = .ok (.iload_n 1, 1) := by decide +kernel
theorem dX2_onBits_30 : decode cX2_onBits 30 = .ok (.ireturn, 1) := by decide +kernel
theorem dX2_knownTogether_0 : decode cX2_knownTogether 0 = .ok (.iconst 0, 1) := by decide +kernel
theorem dX2_knownTogether_1 : decode cX2_knownTogether 1 = .ok (.istore_n 1, 1) := by decide +kernel
theorem dX2_knownTogether_2 : decode cX2_knownTogether 2 = .ok (.iconst 0, 1) := by decide +kernel
theorem dX2_knownTogether_3 : decode cX2_knownTogether 3 = .ok (.istore_n 2, 1) := by decide +kernel
theorem dX2_knownTogether_4 : decode cX2_knownTogether 4 = .ok (.iload_n 2, 1) := by decide +kernel
theorem dX2_knownTogether_5 : decode cX2_knownTogether 5 = .ok (.aload_n 0, 1) := by decide +kernel
theorem dX2_knownTogether_6 : decode cX2_knownTogether 6 = .ok (.getfield 43, 3) := by decide +kernel
theorem dX2_knownTogether_9 : decode cX2_knownTogether 9 = .ok (.if_icmp .ge 18, 3) := by decide +kernel
theorem dX2_knownTogether_12 : decode cX2_knownTogether 12 = .ok (.iload_n 1, 1) := by decide +kernel
theorem dX2_knownTogether_13 : decode cX2_knownTogether 13 = .ok (.aload_n 0, 1) := by decide +kernel
theorem dX2_knownTogether_14 : decode cX2_knownTogether 14 = .ok (.getfield 30, 3) := by decide +kernel
theorem dX2_knownTogether_17 : decode cX2_knownTogether 17 = .ok (.iload_n 2, 1) := by decide +kernel
theorem dX2_knownTogether_18 : decode cX2_knownTogether 18 = .ok (.iaload, 1) := by decide +kernel
theorem dX2_knownTogether_19 : decode cX2_knownTogether 19 = .ok (.iadd, 1) := by decide +kernel
theorem dX2_knownTogether_20 : decode cX2_knownTogether 20 = .ok (.istore_n 1, 1) := by decide +kernel
theorem dX2_knownTogether_21 : decode cX2_knownTogether 21 = .ok (.iinc 2 1, 3) := by decide +kernel
theorem dX2_knownTogether_24 : decode cX2_knownTogether 24 = .ok (.goto (-20), 3) := by decide +kernel
theorem dX2_knownTogether_27 : decode cX2_knownTogether 27 = .ok (.iload_n 1, 1) := by decide +kernel
theorem dX2_knownTogether_28 : decode cX2_knownTogether 28 = .ok (.ireturn, 1) := by decide +kernel
theorem dX2_dayStep_0 : decode cX2_dayStep 0 = .ok (.aload_n 0, 1) := by decide +kernel
theorem dX2_dayStep_1 : decode cX2_dayStep 1 = .ok (.getfield 33, 3) := by decide +kernel
theorem dX2_dayStep_4 : decode cX2_dayStep 4 = .ok (.iload_n 1, 1) := by decide +kernel
theorem dX2_dayStep_5 : decode cX2_dayStep 5 = .ok (.iadd, 1) := by decide +kernel
theorem dX2_dayStep_6 : decode cX2_dayStep 6 = .ok (.bipush 12, 2) := by decide +kernel
theorem dX2_dayStep_8 : decode cX2_dayStep 8 = .ok (.irem, 1) := by decide +kernel
theorem dX2_dayStep_9 : decode cX2_dayStep 9 = .ok (.ireturn, 1) := by decide +kernel
theorem dX2_pass_0 : decode cX2_pass 0 = .ok (.aload_n 0, 1) := by decide +kernel
theorem dX2_pass_1 : decode cX2_pass 1 = .ok (.sipush 9999, 3) := by decide +kernel
theorem dX2_pass_4 : decode cX2_pass 4 = .ok (.aload_n 0, 1) := by decide +kernel
theorem dX2_pass_5 : decode cX2_pass 5 = .ok (.getfield 33, 3) := by decide +kernel
theorem dX2_pass_8 : decode cX2_pass 8 = .ok (.iload_n 1, 1) := by decide +kernel
theorem dX2_pass_9 : decode cX2_pass 9 = .ok (.iadd, 1) := by decide +kernel
theorem dX2_pass_10 : decode cX2_pass 10 = .ok (.invokestatic 46, 3) := by decide +kernel
theorem dX2_pass_13 : decode cX2_pass 13 = .ok (.putfield 33, 3) := by decide +kernel
theorem dX2_pass_16 : decode cX2_pass 16 = .ok (.return_, 1) := by decide +kernel
theorem dX2_pullAt_0 : decode cX2_pullAt 0 = .ok (.aload_n 0, 1) := by decide +kernel
theorem dX2_pullAt_1 : decode cX2_pullAt 1 = .ok (.getfield 9, 3) := by decide +kernel
theorem dX2_pullAt_4 : decode cX2_pullAt 4 = .ok (.iload_n 1, 1) := by decide +kernel
theorem dX2_pullAt_5 : decode cX2_pullAt 5 = .ok (.iaload, 1) := by decide +kernel
theorem dX2_pullAt_6 : decode cX2_pullAt 6 = .ok (.aload_n 0, 1) := by decide +kernel
theorem dX2_pullAt_7 : decode cX2_pullAt 7 = .ok (.getfield 18, 3) := by decide +kernel
theorem dX2_pullAt_10 : decode cX2_pullAt 10 = .ok (.iload_n 1, 1) := by decide +kernel
theorem dX2_pullAt_11 : decode cX2_pullAt 11 = .ok (.iaload, 1) := by decide +kernel
theorem dX2_pullAt_12 : decode cX2_pullAt 12 = .ok (.aload_n 0, 1) := by decide +kernel
theorem dX2_pullAt_13 : decode cX2_pullAt 13 = .ok (.getfield 15, 3) := by decide +kernel
theorem dX2_pullAt_16 : decode cX2_pullAt 16 = .ok (.iload_n 1, 1) := by decide +kernel
theorem dX2_pullAt_17 : decode cX2_pullAt 17 = .ok (.iaload, 1) := by decide +kernel
theorem dX2_pullAt_18 : decode cX2_pullAt 18 = .ok (.iload_n 2, 1) := by decide +kernel
theorem dX2_pullAt_19 : decode cX2_pullAt 19 = .ok (.invokestatic 52, 3) := by decide +kernel
theorem dX2_pullAt_22 : decode cX2_pullAt 22 = .ok (.iload_n 3, 1) := by decide +kernel
theorem dX2_pullAt_23 : decode cX2_pullAt 23 = .ok (.invokestatic 55, 3) := by decide +kernel
theorem dX2_pullAt_26 : decode cX2_pullAt 26 = .ok (.ireturn, 1) := by decide +kernel
theorem dX2_strongest_0 : decode cX2_strongest 0 = .ok (.iconst (-1), 1) := by decide +kernel
theorem dX2_strongest_1 : decode cX2_strongest 1 = .ok (.istore 4, 2) := by decide +kernel
theorem dX2_strongest_3 : decode cX2_strongest 3 = .ok (.iconst 0, 1) := by decide +kernel
theorem dX2_strongest_4 : decode cX2_strongest 4 = .ok (.istore 5, 2) := by decide +kernel
theorem dX2_strongest_6 : decode cX2_strongest 6 = .ok (.iconst 0, 1) := by decide +kernel
theorem dX2_strongest_7 : decode cX2_strongest 7 = .ok (.istore 6, 2) := by decide +kernel
theorem dX2_strongest_9 : decode cX2_strongest 9 = .ok (.iload 6, 2) := by decide +kernel
theorem dX2_strongest_11 : decode cX2_strongest 11 = .ok (.aload_n 0, 1) := by decide +kernel
theorem dX2_strongest_12 : decode cX2_strongest 12 = .ok (.getfield 40, 3) := by decide +kernel
theorem dX2_strongest_15 : decode cX2_strongest 15 = .ok (.if_icmp .ge 48, 3) := by decide +kernel
theorem dX2_strongest_18 : decode cX2_strongest 18 = .ok (.iload_n 1, 1) := by decide +kernel
theorem dX2_strongest_19 : decode cX2_strongest 19 = .ok (.iload 6, 2) := by decide +kernel
theorem dX2_strongest_21 : decode cX2_strongest 21 = .ok (.ishr, 1) := by decide +kernel
theorem dX2_strongest_22 : decode cX2_strongest 22 = .ok (.iconst 1, 1) := by decide +kernel
theorem dX2_strongest_23 : decode cX2_strongest 23 = .ok (.iand, 1) := by decide +kernel
theorem dX2_strongest_24 : decode cX2_strongest 24 = .ok (.iconst 1, 1) := by decide +kernel
theorem dX2_strongest_25 : decode cX2_strongest 25 = .ok (.if_icmp .ne 14, 3) := by decide +kernel
theorem dX2_strongest_28 : decode cX2_strongest 28 = .ok (.aload_n 0, 1) := by decide +kernel
theorem dX2_strongest_29 : decode cX2_strongest 29 = .ok (.iload 6, 2) := by decide +kernel
theorem dX2_strongest_31 : decode cX2_strongest 31 = .ok (.iload_n 2, 1) := by decide +kernel
theorem dX2_strongest_32 : decode cX2_strongest 32 = .ok (.iload_n 3, 1) := by decide +kernel
theorem dX2_strongest_33 : decode cX2_strongest 33 = .ok (.invokevirtual 61, 3) := by decide +kernel
theorem dX2_strongest_36 : decode cX2_strongest 36 = .ok (.goto 4, 3) := by decide +kernel
theorem dX2_strongest_39 : decode cX2_strongest 39 = .ok (.iconst 0, 1) := by decide +kernel
theorem dX2_strongest_40 : decode cX2_strongest 40 = .ok (.istore 7, 2) := by decide +kernel
theorem dX2_strongest_42 : decode cX2_strongest 42 = .ok (.iload 7, 2) := by decide +kernel
theorem dX2_strongest_44 : decode cX2_strongest 44 = .ok (.iload 5, 2) := by decide +kernel
theorem dX2_strongest_46 : decode cX2_strongest 46 = .ok (.if_icmp .le 11, 3) := by decide +kernel
theorem dX2_strongest_49 : decode cX2_strongest 49 = .ok (.iload 7, 2) := by decide +kernel
theorem dX2_strongest_51 : decode cX2_strongest 51 = .ok (.istore 5, 2) := by decide +kernel
theorem dX2_strongest_53 : decode cX2_strongest 53 = .ok (.iload 6, 2) := by decide +kernel
theorem dX2_strongest_55 : decode cX2_strongest 55 = .ok (.istore 4, 2) := by decide +kernel
theorem dX2_strongest_57 : decode cX2_strongest 57 = .ok (.iinc 6 1, 3) := by decide +kernel
theorem dX2_strongest_60 : decode cX2_strongest 60 = .ok (.goto (-51), 3) := by decide +kernel
theorem dX2_strongest_63 : decode cX2_strongest 63 = .ok (.iload 4, 2) := by decide +kernel
theorem dX2_strongest_65 : decode cX2_strongest 65 = .ok (.ireturn, 1) := by decide +kernel
theorem dX2_greatestPull_0 : decode cX2_greatestPull 0 = .ok (.iconst 0, 1) := by decide +kernel
theorem dX2_greatestPull_1 : decode cX2_greatestPull 1 = .ok (.istore 4, 2) := by decide +kernel
theorem dX2_greatestPull_3 : decode cX2_greatestPull 3 = .ok (.iconst 0, 1) := by decide +kernel
theorem dX2_greatestPull_4 : decode cX2_greatestPull 4 = .ok (.istore 5, 2) := by decide +kernel
theorem dX2_greatestPull_6 : decode cX2_greatestPull 6 = .ok (.iload 5, 2) := by decide +kernel
theorem dX2_greatestPull_8 : decode cX2_greatestPull 8 = .ok (.aload_n 0, 1) := by decide +kernel
theorem dX2_greatestPull_9 : decode cX2_greatestPull 9 = .ok (.getfield 40, 3) := by decide +kernel
theorem dX2_greatestPull_12 : decode cX2_greatestPull 12 = .ok (.if_icmp .ge 59, 3) := by decide +kernel
theorem dX2_greatestPull_15 : decode cX2_greatestPull 15 = .ok (.iload_n 1, 1) := by decide +kernel
theorem dX2_greatestPull_16 : decode cX2_greatestPull 16 = .ok (.iload 5, 2) := by decide +kernel
theorem dX2_greatestPull_18 : decode cX2_greatestPull 18 = .ok (.ishr, 1) := by decide +kernel
theorem dX2_greatestPull_19 : decode cX2_greatestPull 19 = .ok (.iconst 1, 1) := by decide +kernel
theorem dX2_greatestPull_20 : decode cX2_greatestPull 20 = .ok (.iand, 1) := by decide +kernel
theorem dX2_greatestPull_21 : decode cX2_greatestPull 21 = .ok (.iconst 1, 1) := by decide +kernel
theorem dX2_greatestPull_22 : decode cX2_greatestPull 22 = .ok (.if_icmp .ne 43, 3) := by decide +kernel
theorem dX2_greatestPull_25 : decode cX2_greatestPull 25 = .ok (.aload_n 0, 1) := by decide +kernel
theorem dX2_greatestPull_26 : decode cX2_greatestPull 26 = .ok (.getfield 15, 3) := by decide +kernel
theorem dX2_greatestPull_29 : decode cX2_greatestPull 29 = .ok (.iload 5, 2) := by decide +kernel
theorem dX2_greatestPull_31 : decode cX2_greatestPull 31 = .ok (.iaload, 1) := by decide +kernel
theorem dX2_greatestPull_32 : decode cX2_greatestPull 32 = .ok (.iload_n 2, 1) := by decide +kernel
theorem dX2_greatestPull_33 : decode cX2_greatestPull 33 = .ok (.invokestatic 52, 3) := by decide +kernel
theorem dX2_greatestPull_36 : decode cX2_greatestPull 36 = .ok (.istore 6, 2) := by decide +kernel
theorem dX2_greatestPull_38 : decode cX2_greatestPull 38 = .ok (.iload 4, 2) := by decide +kernel
theorem dX2_greatestPull_40 : decode cX2_greatestPull 40 = .ok (.aload_n 0, 1) := by decide +kernel
theorem dX2_greatestPull_41 : decode cX2_greatestPull 41 = .ok (.getfield 9, 3) := by decide +kernel
theorem dX2_greatestPull_44 : decode cX2_greatestPull 44 = .ok (.iload 5, 2) := by decide +kernel
theorem dX2_greatestPull_46 : decode cX2_greatestPull 46 = .ok (.iaload, 1) := by decide +kernel
theorem dX2_greatestPull_47 : decode cX2_greatestPull 47 = .ok (.aload_n 0, 1) := by decide +kernel
theorem dX2_greatestPull_48 : decode cX2_greatestPull 48 = .ok (.getfield 18, 3) := by decide +kernel
theorem dX2_greatestPull_51 : decode cX2_greatestPull 51 = .ok (.iload 5, 2) := by decide +kernel
theorem dX2_greatestPull_53 : decode cX2_greatestPull 53 = .ok (.iaload, 1) := by decide +kernel
theorem dX2_greatestPull_54 : decode cX2_greatestPull 54 = .ok (.iload 6, 2) := by decide +kernel
theorem dX2_greatestPull_56 : decode cX2_greatestPull 56 = .ok (.iload_n 3, 1) := by decide +kernel
theorem dX2_greatestPull_57 : decode cX2_greatestPull 57 = .ok (.invokestatic 55, 3) := by decide +kernel
theorem dX2_greatestPull_60 : decode cX2_greatestPull 60 = .ok (.invokestatic 65, 3) := by decide +kernel
theorem dX2_greatestPull_63 : decode cX2_greatestPull 63 = .ok (.istore 4, 2) := by decide +kernel
theorem dX2_greatestPull_65 : decode cX2_greatestPull 65 = .ok (.iinc 5 1, 3) := by decide +kernel
theorem dX2_greatestPull_68 : decode cX2_greatestPull 68 = .ok (.goto (-62), 3) := by decide +kernel
theorem dX2_greatestPull_71 : decode cX2_greatestPull 71 = .ok (.iload 4, 2) := by decide +kernel
theorem dX2_greatestPull_73 : decode cX2_greatestPull 73 = .ok (.ireturn, 1) := by decide +kernel
theorem dX3_init_0 : decode cX3_init 0 = .ok (.aload_n 0, 1) := by decide +kernel
theorem dX3_init_1 : decode cX3_init 1 = .ok (.invokespecial 3, 3) := by decide +kernel
theorem dX3_init_4 : decode cX3_init 4 = .ok (.aload_n 0, 1) := by decide +kernel
theorem dX3_init_5 : decode cX3_init 5 = .ok (.bipush 8, 2) := by decide +kernel
theorem dX3_init_7 : decode cX3_init 7 = .ok (.anewarray 9, 3) := by decide +kernel
theorem dX3_init_10 : decode cX3_init 10 = .ok (.putfield 11, 3) := by decide +kernel
theorem dX3_init_13 : decode cX3_init 13 = .ok (.iconst 0, 1) := by decide +kernel
theorem dX3_init_14 : decode cX3_init 14 = .ok (.istore_n 1, 1) := by decide +kernel
theorem dX3_init_15 : decode cX3_init 15 = .ok (.iload_n 1, 1) := by decide +kernel
theorem dX3_init_16 : decode cX3_init 16 = .ok (.aload_n 0, 1) := by decide +kernel
theorem dX3_init_17 : decode cX3_init 17 = .ok (.getfield 11, 3) := by decide +kernel
theorem dX3_init_20 : decode cX3_init 20 = .ok (.arraylength, 1) := by decide +kernel
theorem dX3_init_21 : decode cX3_init 21 = .ok (.if_icmp .ge 22, 3) := by decide +kernel
theorem dX3_init_24 : decode cX3_init 24 = .ok (.aload_n 0, 1) := by decide +kernel
theorem dX3_init_25 : decode cX3_init 25 = .ok (.getfield 11, 3) := by decide +kernel
theorem dX3_init_28 : decode cX3_init 28 = .ok (.iload_n 1, 1) := by decide +kernel
theorem dX3_init_29 : decode cX3_init 29 = .ok (.new 9, 3) := by decide +kernel
theorem dX3_init_32 : decode cX3_init 32 = .ok (.dup, 1) := by decide +kernel
theorem dX3_init_33 : decode cX3_init 33 = .ok (.invokespecial 17, 3) := by decide +kernel
theorem dX3_init_36 : decode cX3_init 36 = .ok (.aastore, 1) := by decide +kernel
theorem dX3_init_37 : decode cX3_init 37 = .ok (.iinc 1 1, 3) := by decide +kernel
theorem dX3_init_40 : decode cX3_init 40 = .ok (.goto (-25), 3) := by decide +kernel
theorem dX3_init_43 : decode cX3_init 43 = .ok (.return_, 1) := by decide +kernel
theorem dX3_push_0 : decode cX3_push 0 = .ok (.aload_n 0, 1) := by decide +kernel
theorem dX3_push_1 : decode cX3_push 1 = .ok (.getfield 18, 3) := by decide +kernel
theorem dX3_push_4 : decode cX3_push 4 = .ok (.aload_n 0, 1) := by decide +kernel
theorem dX3_push_5 : decode cX3_push 5 = .ok (.getfield 11, 3) := by decide +kernel
theorem dX3_push_8 : decode cX3_push 8 = .ok (.arraylength, 1) := by decide +kernel
theorem dX3_push_9 : decode cX3_push 9 = .ok (.if_icmp .lt 7, 3) := by decide +kernel
theorem dX3_push_12 : decode cX3_push 12 = .ok (.aload_n 0, 1) := by decide +kernel
theorem dX3_push_13 : decode cX3_push 13 = .ok (.invokevirtual 22, 3) := by decide +kernel
theorem dX3_push_16 : decode cX3_push 16 = .ok (.aload_n 0, 1) := by decide +kernel
theorem dX3_push_17 : decode cX3_push 17 = .ok (.aload_n 0, 1) := by decide +kernel
theorem dX3_push_18 : decode cX3_push 18 = .ok (.getfield 18, 3) := by decide +kernel
theorem dX3_push_21 : decode cX3_push 21 = .ok (.aload_n 1, 1) := by decide +kernel
theorem dX3_push_22 : decode cX3_push 22 = .ok (.invokevirtual 25, 3) := by decide +kernel
theorem dX3_push_25 : decode cX3_push 25 = .ok (.aload_n 0, 1) := by decide +kernel
theorem dX3_push_26 : decode cX3_push 26 = .ok (.dup, 1) := by decide +kernel
theorem dX3_push_27 : decode cX3_push 27 = .ok (.getfield 18, 3) := by decide +kernel
theorem dX3_push_30 : decode cX3_push 30 = .ok (.iconst 1, 1) := by decide +kernel
theorem dX3_push_31 : decode cX3_push 31 = .ok (.iadd, 1) := by decide +kernel
theorem dX3_push_32 : decode cX3_push 32 = .ok (.putfield 18, 3) := by decide +kernel
theorem dX3_push_35 : decode cX3_push 35 = .ok (.return_, 1) := by decide +kernel
theorem dX3_dropOldest_0 : decode cX3_dropOldest 0 = .ok (.aload_n 0, 1) := by decide +kernel
theorem dX3_dropOldest_1 : decode cX3_dropOldest 1 = .ok (.getfield 11, 3) := by decide +kernel
theorem dX3_dropOldest_4 : decode cX3_dropOldest 4 = .ok (.iconst 0, 1) := by decide +kernel
theorem dX3_dropOldest_5 : decode cX3_dropOldest 5 = .ok (.aaload, 1) := by decide +kernel
theorem dX3_dropOldest_6 : decode cX3_dropOldest 6 = .ok (.astore_n 1, 1) := by decide +kernel
theorem dX3_dropOldest_7 : decode cX3_dropOldest 7 = .ok (.iconst 1, 1) := by decide +kernel
theorem dX3_dropOldest_8 : decode cX3_dropOldest 8 = .ok (.istore_n 2, 1) := by decide +kernel
theorem dX3_dropOldest_9 : decode cX3_dropOldest 9 = .ok (.iload_n 2, 1) := by decide +kernel
theorem dX3_dropOldest_10 : decode cX3_dropOldest 10 = .ok (.aload_n 0, 1) := by decide +kernel
theorem dX3_dropOldest_11 : decode cX3_dropOldest 11 = .ok (.getfield 11, 3) := by decide +kernel
theorem dX3_dropOldest_14 : decode cX3_dropOldest 14 = .ok (.arraylength, 1) := by decide +kernel
theorem dX3_dropOldest_15 : decode cX3_dropOldest 15 = .ok (.if_icmp .ge 23, 3) := by decide +kernel
theorem dX3_dropOldest_18 : decode cX3_dropOldest 18 = .ok (.aload_n 0, 1) := by decide +kernel
theorem dX3_dropOldest_19 : decode cX3_dropOldest 19 = .ok (.getfield 11, 3) := by decide +kernel
theorem dX3_dropOldest_22 : decode cX3_dropOldest 22 = .ok (.iload_n 2, 1) := by decide +kernel
theorem dX3_dropOldest_23 : decode cX3_dropOldest 23 = .ok (.iconst 1, 1) := by decide +kernel
theorem dX3_dropOldest_24 : decode cX3_dropOldest 24 = .ok (.isub, 1) := by decide +kernel
theorem dX3_dropOldest_25 : decode cX3_dropOldest 25 = .ok (.aload_n 0, 1) := by decide +kernel
theorem dX3_dropOldest_26 : decode cX3_dropOldest 26 = .ok (.getfield 11, 3) := by decide +kernel
theorem dX3_dropOldest_29 : decode cX3_dropOldest 29 = .ok (.iload_n 2, 1) := by decide +kernel
theorem dX3_dropOldest_30 : decode cX3_dropOldest 30 = .ok (.aaload, 1) := by decide +kernel
theorem dX3_dropOldest_31 : decode cX3_dropOldest 31 = .ok (.aastore, 1) := by decide +kernel
theorem dX3_dropOldest_32 : decode cX3_dropOldest 32 = .ok (.iinc 2 1, 3) := by decide +kernel
theorem dX3_dropOldest_35 : decode cX3_dropOldest 35 = .ok (.goto (-26), 3) := by decide +kernel
theorem dX3_dropOldest_38 : decode cX3_dropOldest 38 = .ok (.aload_n 0, 1) := by decide +kernel
theorem dX3_dropOldest_39 : decode cX3_dropOldest 39 = .ok (.getfield 11, 3) := by decide +kernel
theorem dX3_dropOldest_42 : decode cX3_dropOldest 42 = .ok (.aload_n 0, 1) := by decide +kernel
theorem dX3_dropOldest_43 : decode cX3_dropOldest 43 = .ok (.getfield 11, 3) := by decide +kernel
theorem dX3_dropOldest_46 : decode cX3_dropOldest 46 = .ok (.arraylength, 1) := by decide +kernel
theorem dX3_dropOldest_47 : decode cX3_dropOldest 47 = .ok (.iconst 1, 1) := by decide +kernel
theorem dX3_dropOldest_48 : decode cX3_dropOldest 48 = .ok (.isub, 1) := by decide +kernel
theorem dX3_dropOldest_49 : decode cX3_dropOldest 49 = .ok (.aload_n 1, 1) := by decide +kernel
theorem dX3_dropOldest_50 : decode cX3_dropOldest 50 = .ok (.aastore, 1) := by decide +kernel
theorem dX3_dropOldest_51 : decode cX3_dropOldest 51 = .ok (.aload_n 0, 1) := by decide +kernel
theorem dX3_dropOldest_52 : decode cX3_dropOldest 52 = .ok (.aload_n 0, 1) := by decide +kernel
theorem dX3_dropOldest_53 : decode cX3_dropOldest 53 = .ok (.getfield 11, 3) := by decide +kernel
theorem dX3_dropOldest_56 : decode cX3_dropOldest 56 = .ok (.arraylength, 1) := by decide +kernel
theorem dX3_dropOldest_57 : decode cX3_dropOldest 57 = .ok (.iconst 1, 1) := by decide +kernel
theorem dX3_dropOldest_58 : decode cX3_dropOldest 58 = .ok (.isub, 1) := by decide +kernel
theorem dX3_dropOldest_59 : decode cX3_dropOldest 59 = .ok (.putfield 18, 3) := by decide +kernel
theorem dX3_dropOldest_62 : decode cX3_dropOldest 62 = .ok (.return_, 1) := by decide +kernel
theorem dX3_keepAt_0 : decode cX3_keepAt 0 = .ok (.iload_n 1, 1) := by decide +kernel
theorem dX3_keepAt_1 : decode cX3_keepAt 1 = .ok (.ifCond .lt 31, 3) := by decide +kernel
theorem dX3_keepAt_4 : decode cX3_keepAt 4 = .ok (.iload_n 1, 1) := by decide +kernel
theorem dX3_keepAt_5 : decode cX3_keepAt 5 = .ok (.aload_n 0, 1) := by decide +kernel
theorem dX3_keepAt_6 : decode cX3_keepAt 6 = .ok (.getfield 11, 3) := by decide +kernel
theorem dX3_keepAt_9 : decode cX3_keepAt 9 = .ok (.arraylength, 1) := by decide +kernel
theorem dX3_keepAt_10 : decode cX3_keepAt 10 = .ok (.if_icmp .ge 22, 3) := by decide +kernel
theorem dX3_keepAt_13 : decode cX3_keepAt 13 = .ok (.aload_n 0, 1) := by decide +kernel
theorem dX3_keepAt_14 : decode cX3_keepAt 14 = .ok (.getfield 11, 3) := by decide +kernel
theorem dX3_keepAt_17 : decode cX3_keepAt 17 = .ok (.iload_n 1, 1) := by decide +kernel
theorem dX3_keepAt_18 : decode cX3_keepAt 18 = .ok (.aaload, 1) := by decide +kernel
theorem dX3_keepAt_19 : decode cX3_keepAt 19 = .ok (.ifnull 13, 3) := by decide +kernel
theorem dX3_keepAt_22 : decode cX3_keepAt 22 = .ok (.aload_n 0, 1) := by decide +kernel
theorem dX3_keepAt_23 : decode cX3_keepAt 23 = .ok (.getfield 11, 3) := by decide +kernel
theorem dX3_keepAt_26 : decode cX3_keepAt 26 = .ok (.iload_n 1, 1) := by decide +kernel
theorem dX3_keepAt_27 : decode cX3_keepAt 27 = .ok (.aaload, 1) := by decide +kernel
theorem dX3_keepAt_28 : decode cX3_keepAt 28 = .ok (.aload_n 2, 1) := by decide +kernel
theorem dX3_keepAt_29 : decode cX3_keepAt 29 = .ok (.invokevirtual 29, 3) := by decide +kernel
theorem dX3_keepAt_32 : decode cX3_keepAt 32 = .ok (.return_, 1) := by decide +kernel
theorem dX3_popInto_0 : decode cX3_popInto 0 = .ok (.aload_n 0, 1) := by decide +kernel
theorem dX3_popInto_1 : decode cX3_popInto 1 = .ok (.getfield 18, 3) := by decide +kernel
theorem dX3_popInto_4 : decode cX3_popInto 4 = .ok (.ifCond .le 52, 3) := by decide +kernel
theorem dX3_popInto_7 : decode cX3_popInto 7 = .ok (.aload_n 0, 1) := by decide +kernel
theorem dX3_popInto_8 : decode cX3_popInto 8 = .ok (.getfield 18, 3) := by decide +kernel
theorem dX3_popInto_11 : decode cX3_popInto 11 = .ok (.aload_n 0, 1) := by decide +kernel
theorem dX3_popInto_12 : decode cX3_popInto 12 = .ok (.getfield 11, 3) := by decide +kernel
theorem dX3_popInto_15 : decode cX3_popInto 15 = .ok (.arraylength, 1) := by decide +kernel
theorem dX3_popInto_16 : decode cX3_popInto 16 = .ok (.if_icmp .gt 40, 3) := by decide +kernel
theorem dX3_popInto_19 : decode cX3_popInto 19 = .ok (.aload_n 0, 1) := by decide +kernel
theorem dX3_popInto_20 : decode cX3_popInto 20 = .ok (.getfield 11, 3) := by decide +kernel
theorem dX3_popInto_23 : decode cX3_popInto 23 = .ok (.aload_n 0, 1) := by decide +kernel
theorem dX3_popInto_24 : decode cX3_popInto 24 = .ok (.getfield 18, 3) := by decide +kernel
theorem dX3_popInto_27 : decode cX3_popInto 27 = .ok (.iconst 1, 1) := by decide +kernel
theorem dX3_popInto_28 : decode cX3_popInto 28 = .ok (.isub, 1) := by decide +kernel
theorem dX3_popInto_29 : decode cX3_popInto 29 = .ok (.aaload, 1) := by decide +kernel
theorem dX3_popInto_30 : decode cX3_popInto 30 = .ok (.ifnull 26, 3) := by decide +kernel
theorem dX3_popInto_33 : decode cX3_popInto 33 = .ok (.aload_n 0, 1) := by decide +kernel
theorem dX3_popInto_34 : decode cX3_popInto 34 = .ok (.dup, 1) := by decide +kernel
theorem dX3_popInto_35 : decode cX3_popInto 35 = .ok (.getfield 18, 3) := by decide +kernel
theorem dX3_popInto_38 : decode cX3_popInto 38 = .ok (.iconst 1, 1) := by decide +kernel
theorem dX3_popInto_39 : decode cX3_popInto 39 = .ok (.isub, 1) := by decide +kernel
theorem dX3_popInto_40 : decode cX3_popInto 40 = .ok (.putfield 18, 3) := by decide +kernel
theorem dX3_popInto_43 : decode cX3_popInto 43 = .ok (.aload_n 1, 1) := by decide +kernel
theorem dX3_popInto_44 : decode cX3_popInto 44 = .ok (.aload_n 0, 1) := by decide +kernel
theorem dX3_popInto_45 : decode cX3_popInto 45 = .ok (.getfield 11, 3) := by decide +kernel
theorem dX3_popInto_48 : decode cX3_popInto 48 = .ok (.aload_n 0, 1) := by decide +kernel
theorem dX3_popInto_49 : decode cX3_popInto 49 = .ok (.getfield 18, 3) := by decide +kernel
theorem dX3_popInto_52 : decode cX3_popInto 52 = .ok (.aaload, 1) := by decide +kernel
theorem dX3_popInto_53 : decode cX3_popInto 53 = .ok (.invokevirtual 29, 3) := by decide +kernel
theorem dX3_popInto_56 : decode cX3_popInto 56 = .ok (.return_, 1) := by decide +kernel
theorem dX3_copyOf_0 : decode cX3_copyOf 0 = .ok (.aload_n 0, 1) := by decide +kernel
theorem dX3_copyOf_1 : decode cX3_copyOf 1 = .ok (.aload_n 1, 1) := by decide +kernel
theorem dX3_copyOf_2 : decode cX3_copyOf 2 = .ok (.getfield 18, 3) := by decide +kernel
theorem dX3_copyOf_5 : decode cX3_copyOf 5 = .ok (.putfield 18, 3) := by decide +kernel
theorem dX3_copyOf_8 : decode cX3_copyOf 8 = .ok (.iconst 0, 1) := by decide +kernel
theorem dX3_copyOf_9 : decode cX3_copyOf 9 = .ok (.istore_n 2, 1) := by decide +kernel
theorem dX3_copyOf_10 : decode cX3_copyOf 10 = .ok (.iload_n 2, 1) := by decide +kernel
theorem dX3_copyOf_11 : decode cX3_copyOf 11 = .ok (.aload_n 0, 1) := by decide +kernel
theorem dX3_copyOf_12 : decode cX3_copyOf 12 = .ok (.getfield 18, 3) := by decide +kernel
theorem dX3_copyOf_15 : decode cX3_copyOf 15 = .ok (.if_icmp .ge 29, 3) := by decide +kernel
theorem dX3_copyOf_18 : decode cX3_copyOf 18 = .ok (.iload_n 2, 1) := by decide +kernel
theorem dX3_copyOf_19 : decode cX3_copyOf 19 = .ok (.aload_n 1, 1) := by decide +kernel
theorem dX3_copyOf_20 : decode cX3_copyOf 20 = .ok (.getfield 11, 3) := by decide +kernel
theorem dX3_copyOf_23 : decode cX3_copyOf 23 = .ok (.arraylength, 1) := by decide +kernel
theorem dX3_copyOf_24 : decode cX3_copyOf 24 = .ok (.if_icmp .ge 20, 3) := by decide +kernel
theorem dX3_copyOf_27 : decode cX3_copyOf 27 = .ok (.aload_n 0, 1) := by decide +kernel
theorem dX3_copyOf_28 : decode cX3_copyOf 28 = .ok (.iload_n 2, 1) := by decide +kernel
theorem dX3_copyOf_29 : decode cX3_copyOf 29 = .ok (.aload_n 1, 1) := by decide +kernel
theorem dX3_copyOf_30 : decode cX3_copyOf 30 = .ok (.getfield 11, 3) := by decide +kernel
theorem dX3_copyOf_33 : decode cX3_copyOf 33 = .ok (.iload_n 2, 1) := by decide +kernel
theorem dX3_copyOf_34 : decode cX3_copyOf 34 = .ok (.aaload, 1) := by decide +kernel
theorem dX3_copyOf_35 : decode cX3_copyOf 35 = .ok (.invokevirtual 25, 3) := by decide +kernel
theorem dX3_copyOf_38 : decode cX3_copyOf 38 = .ok (.iinc 2 1, 3) := by decide +kernel
theorem dX3_copyOf_41 : decode cX3_copyOf 41 = .ok (.goto (-31), 3) := by decide +kernel
theorem dX3_copyOf_44 : decode cX3_copyOf 44 = .ok (.return_, 1) := by decide +kernel
theorem dX4_init_0 : decode cX4_init 0 = .ok (.aload_n 0, 1) := by decide +kernel
theorem dX4_init_1 : decode cX4_init 1 = .ok (.invokespecial 3, 3) := by decide +kernel
theorem dX4_init_4 : decode cX4_init 4 = .ok (.aload_n 0, 1) := by decide +kernel
theorem dX4_init_5 : decode cX4_init 5 = .ok (.iconst 4, 1) := by decide +kernel
theorem dX4_init_6 : decode cX4_init 6 = .ok (.newarray .int, 2) := by decide +kernel
theorem dX4_init_8 : decode cX4_init 8 = .ok (.putfield 9, 3) := by decide +kernel
theorem dX4_init_11 : decode cX4_init 11 = .ok (.return_, 1) := by decide +kernel
theorem dX4_openAt_0 : decode cX4_openAt 0 = .ok (.iload_n 1, 1) := by decide +kernel
theorem dX4_openAt_1 : decode cX4_openAt 1 = .ok (.ifCond .lt 19, 3) := by decide +kernel
theorem dX4_openAt_4 : decode cX4_openAt 4 = .ok (.iload_n 1, 1) := by decide +kernel
theorem dX4_openAt_5 : decode cX4_openAt 5 = .ok (.aload_n 0, 1) := by decide +kernel
theorem dX4_openAt_6 : decode cX4_openAt 6 = .ok (.getfield 9, 3) := by decide +kernel
theorem dX4_openAt_9 : decode cX4_openAt 9 = .ok (.arraylength, 1) := by decide +kernel
theorem dX4_openAt_10 : decode cX4_openAt 10 = .ok (.if_icmp .ge 10, 3) := by decide +kernel
theorem dX4_openAt_13 : decode cX4_openAt 13 = .ok (.aload_n 0, 1) := by decide +kernel
theorem dX4_openAt_14 : decode cX4_openAt 14 = .ok (.getfield 9, 3) := by decide +kernel
theorem dX4_openAt_17 : decode cX4_openAt 17 = .ok (.iload_n 1, 1) := by decide +kernel
theorem dX4_openAt_18 : decode cX4_openAt 18 = .ok (.iload_n 2, 1) := by decide +kernel
theorem dX4_openAt_19 : decode cX4_openAt 19 = .ok (.iastore, 1) := by decide +kernel
theorem dX4_openAt_20 : decode cX4_openAt 20 = .ok (.return_, 1) := by decide +kernel
theorem dX4_soonestLast_0 : decode cX4_soonestLast 0 = .ok (.iconst 0, 1) := by decide +kernel
theorem dX4_soonestLast_1 : decode cX4_soonestLast 1 = .ok (.istore_n 1, 1) := by decide +kernel
theorem dX4_soonestLast_2 : decode cX4_soonestLast 2 = .ok (.iload_n 1, 1) := by decide +kernel
theorem dX4_soonestLast_3 : decode cX4_soonestLast 3 = .ok (.bipush 24, 2) := by decide +kernel
theorem dX4_soonestLast_5 : decode cX4_soonestLast 5 = .ok (.if_icmp .ge 23, 3) := by decide +kernel
theorem dX4_soonestLast_8 : decode cX4_soonestLast 8 = .ok (.aload_n 0, 1) := by decide +kernel
theorem dX4_soonestLast_9 : decode cX4_soonestLast 9 = .ok (.iconst 0, 1) := by decide +kernel
theorem dX4_soonestLast_10 : decode cX4_soonestLast 10 = .ok (.iload_n 1, 1) := by decide +kernel
theorem dX4_soonestLast_11 : decode cX4_soonestLast 11 = .ok (.invokestatic 15, 3) := by decide +kernel
theorem dX4_soonestLast_14 : decode cX4_soonestLast 14 = .ok (.invokevirtual 19, 3) := by decide +kernel
theorem dX4_soonestLast_17 : decode cX4_soonestLast 17 = .ok (.ifCond .eq 5, 3) := by decide +kernel
theorem dX4_soonestLast_20 : decode cX4_soonestLast 20 = .ok (.iload_n 1, 1) := by decide +kernel
theorem dX4_soonestLast_21 : decode cX4_soonestLast 21 = .ok (.ireturn, 1) := by decide +kernel
theorem dX4_soonestLast_22 : decode cX4_soonestLast 22 = .ok (.iinc 1 1, 3) := by decide +kernel
theorem dX4_soonestLast_25 : decode cX4_soonestLast 25 = .ok (.goto (-23), 3) := by decide +kernel
theorem dX4_soonestLast_28 : decode cX4_soonestLast 28 = .ok (.iconst (-1), 1) := by decide +kernel
theorem dX4_soonestLast_29 : decode cX4_soonestLast 29 = .ok (.ireturn, 1) := by decide +kernel
theorem dX4_stepOf_0 : decode cX4_stepOf 0 = .ok (.iload_n 2, 1) := by decide +kernel
theorem dX4_stepOf_1 : decode cX4_stepOf 1 = .ok (.invokestatic 15, 3) := by decide +kernel
theorem dX4_stepOf_4 : decode cX4_stepOf 4 = .ok (.istore_n 3, 1) := by decide +kernel
theorem dX4_stepOf_5 : decode cX4_stepOf 5 = .ok (.iconst (-1), 1) := by decide +kernel
theorem dX4_stepOf_6 : decode cX4_stepOf 6 = .ok (.istore 4, 2) := by decide +kernel
theorem dX4_stepOf_8 : decode cX4_stepOf 8 = .ok (.iconst 0, 1) := by decide +kernel
theorem dX4_stepOf_9 : decode cX4_stepOf 9 = .ok (.istore 5, 2) := by decide +kernel
theorem dX4_stepOf_11 : decode cX4_stepOf 11 = .ok (.iload 5, 2) := by decide +kernel
theorem dX4_stepOf_13 : decode cX4_stepOf 13 = .ok (.iload_n 1, 1) := by decide +kernel
theorem dX4_stepOf_14 : decode cX4_stepOf 14 = .ok (.if_icmp .gt 44, 3) := by decide +kernel
theorem dX4_stepOf_17 : decode cX4_stepOf 17 = .ok (.iload 5, 2) := by decide +kernel
theorem dX4_stepOf_19 : decode cX4_stepOf 19 = .ok (.aload_n 0, 1) := by decide +kernel
theorem dX4_stepOf_20 : decode cX4_stepOf 20 = .ok (.getfield 23, 3) := by decide +kernel
theorem dX4_stepOf_23 : decode cX4_stepOf 23 = .ok (.if_icmp .ge 35, 3) := by decide +kernel
theorem dX4_stepOf_26 : decode cX4_stepOf 26 = .ok (.aload_n 0, 1) := by decide +kernel
theorem dX4_stepOf_27 : decode cX4_stepOf 27 = .ok (.iload 5, 2) := by decide +kernel
theorem dX4_stepOf_29 : decode cX4_stepOf 29 = .ok (.iload_n 3, 1) := by decide +kernel
theorem dX4_stepOf_30 : decode cX4_stepOf 30 = .ok (.invokevirtual 27, 3) := by decide +kernel
theorem dX4_stepOf_33 : decode cX4_stepOf 33 = .ok (.istore 4, 2) := by decide +kernel
theorem dX4_stepOf_35 : decode cX4_stepOf 35 = .ok (.iload 4, 2) := by decide +kernel
theorem dX4_stepOf_37 : decode cX4_stepOf 37 = .ok (.iconst (-1), 1) := by decide +kernel
theorem dX4_stepOf_38 : decode cX4_stepOf 38 = .ok (.if_icmp .ne 5, 3) := by decide +kernel
theorem dX4_stepOf_41 : decode cX4_stepOf 41 = .ok (.iconst (-1), 1) := by decide +kernel
theorem dX4_stepOf_42 : decode cX4_stepOf 42 = .ok (.ireturn, 1) := by decide +kernel
theorem dX4_stepOf_43 : decode cX4_stepOf 43 = .ok (.iload_n 3, 1) := by decide +kernel
theorem dX4_stepOf_44 : decode cX4_stepOf 44 = .ok (.iconst 1, 1) := by decide +kernel
theorem dX4_stepOf_45 : decode cX4_stepOf 45 = .ok (.iload 4, 2) := by decide +kernel
theorem dX4_stepOf_47 : decode cX4_stepOf 47 = .ok (.ishl, 1) := by decide +kernel
theorem dX4_stepOf_48 : decode cX4_stepOf 48 = .ok (.iconst (-1), 1) := by decide +kernel
theorem dX4_stepOf_49 : decode cX4_stepOf 49 = .ok (.ixor, 1) := by decide +kernel
theorem dX4_stepOf_50 : decode cX4_stepOf 50 = .ok (.iand, 1) := by decide +kernel
theorem dX4_stepOf_51 : decode cX4_stepOf 51 = .ok (.istore_n 3, 1) := by decide +kernel
theorem dX4_stepOf_52 : decode cX4_stepOf 52 = .ok (.iinc 5 1, 3) := by decide +kernel
theorem dX4_stepOf_55 : decode cX4_stepOf 55 = .ok (.goto (-44), 3) := by decide +kernel
theorem dX4_stepOf_58 : decode cX4_stepOf 58 = .ok (.iload 4, 2) := by decide +kernel
theorem dX4_stepOf_60 : decode cX4_stepOf 60 = .ok (.ireturn, 1) := by decide +kernel
theorem dX4_firstStep_0 : decode cX4_firstStep 0 = .ok (.iconst 0, 1) := by decide +kernel
theorem dX4_firstStep_1 : decode cX4_firstStep 1 = .ok (.istore_n 3, 1) := by decide +kernel
theorem dX4_firstStep_2 : decode cX4_firstStep 2 = .ok (.iload_n 3, 1) := by decide +kernel
theorem dX4_firstStep_3 : decode cX4_firstStep 3 = .ok (.bipush 24, 2) := by decide +kernel
theorem dX4_firstStep_5 : decode cX4_firstStep 5 = .ok (.if_icmp .ge 43, 3) := by decide +kernel
theorem dX4_firstStep_8 : decode cX4_firstStep 8 = .ok (.aload_n 0, 1) := by decide +kernel
theorem dX4_firstStep_9 : decode cX4_firstStep 9 = .ok (.getfield 9, 3) := by decide +kernel
theorem dX4_firstStep_12 : decode cX4_firstStep 12 = .ok (.iload_n 1, 1) := by decide +kernel
theorem dX4_firstStep_13 : decode cX4_firstStep 13 = .ok (.iaload, 1) := by decide +kernel
theorem dX4_firstStep_14 : decode cX4_firstStep 14 = .ok (.iload_n 2, 1) := by decide +kernel
theorem dX4_firstStep_15 : decode cX4_firstStep 15 = .ok (.iand, 1) := by decide +kernel
theorem dX4_firstStep_16 : decode cX4_firstStep 16 = .ok (.iconst 1, 1) := by decide +kernel
theorem dX4_firstStep_17 : decode cX4_firstStep 17 = .ok (.iload_n 3, 1) := by decide +kernel
theorem dX4_firstStep_18 : decode cX4_firstStep 18 = .ok (.ishl, 1) := by decide +kernel
theorem dX4_firstStep_19 : decode cX4_firstStep 19 = .ok (.iand, 1) := by decide +kernel
theorem dX4_firstStep_20 : decode cX4_firstStep 20 = .ok (.ifCond .eq 22, 3) := by decide +kernel
theorem dX4_firstStep_23 : decode cX4_firstStep 23 = .ok (.aload_n 0, 1) := by decide +kernel
theorem dX4_firstStep_24 : decode cX4_firstStep 24 = .ok (.iload_n 1, 1) := by decide +kernel
theorem dX4_firstStep_25 : decode cX4_firstStep 25 = .ok (.iconst 1, 1) := by decide +kernel
theorem dX4_firstStep_26 : decode cX4_firstStep 26 = .ok (.iadd, 1) := by decide +kernel
theorem dX4_firstStep_27 : decode cX4_firstStep 27 = .ok (.iload_n 2, 1) := by decide +kernel
theorem dX4_firstStep_28 : decode cX4_firstStep 28 = .ok (.iconst 1, 1) := by decide +kernel
theorem dX4_firstStep_29 : decode cX4_firstStep 29 = .ok (.iload_n 3, 1) := by decide +kernel
theorem dX4_firstStep_30 : decode cX4_firstStep 30 = .ok (.ishl, 1) := by decide +kernel
theorem dX4_firstStep_31 : decode cX4_firstStep 31 = .ok (.iconst (-1), 1) := by decide +kernel
theorem dX4_firstStep_32 : decode cX4_firstStep 32 = .ok (.ixor, 1) := by decide +kernel
theorem dX4_firstStep_33 : decode cX4_firstStep 33 = .ok (.iand, 1) := by decide +kernel
theorem dX4_firstStep_34 : decode cX4_firstStep 34 = .ok (.invokevirtual 19, 3) := by decide +kernel
theorem dX4_firstStep_37 : decode cX4_firstStep 37 = .ok (.ifCond .eq 5, 3) := by decide +kernel
theorem dX4_firstStep_40 : decode cX4_firstStep 40 = .ok (.iload_n 3, 1) := by decide +kernel
theorem dX4_firstStep_41 : decode cX4_firstStep 41 = .ok (.ireturn, 1) := by decide +kernel
theorem dX4_firstStep_42 : decode cX4_firstStep 42 = .ok (.iinc 3 1, 3) := by decide +kernel
theorem dX4_firstStep_45 : decode cX4_firstStep 45 = .ok (.goto (-43), 3) := by decide +kernel
theorem dX4_firstStep_48 : decode cX4_firstStep 48 = .ok (.iconst (-1), 1) := by decide +kernel
theorem dX4_firstStep_49 : decode cX4_firstStep 49 = .ok (.ireturn, 1) := by decide +kernel
theorem dX4_upTo_0 : decode cX4_upTo 0 = .ok (.iconst 1, 1) := by decide +kernel
theorem dX4_upTo_1 : decode cX4_upTo 1 = .ok (.iload_n 0, 1) := by decide +kernel
theorem dX4_upTo_2 : decode cX4_upTo 2 = .ok (.iconst 1, 1) := by decide +kernel
theorem dX4_upTo_3 : decode cX4_upTo 3 = .ok (.iadd, 1) := by decide +kernel
theorem dX4_upTo_4 : decode cX4_upTo 4 = .ok (.ishl, 1) := by decide +kernel
theorem dX4_upTo_5 : decode cX4_upTo 5 = .ok (.iconst 1, 1) := by decide +kernel
theorem dX4_upTo_6 : decode cX4_upTo 6 = .ok (.isub, 1) := by decide +kernel
theorem dX4_upTo_7 : decode cX4_upTo 7 = .ok (.ireturn, 1) := by decide +kernel
theorem dX4_canFill_0 : decode cX4_canFill 0 = .ok (.iconst 1, 1) := by decide +kernel
theorem dX4_canFill_1 : decode cX4_canFill 1 = .ok (.istore_n 3, 1) := by decide +kernel
theorem dX4_canFill_2 : decode cX4_canFill 2 = .ok (.iload_n 3, 1) := by decide +kernel
theorem dX4_canFill_3 : decode cX4_canFill 3 = .ok (.iconst 1, 1) := by decide +kernel
theorem dX4_canFill_4 : decode cX4_canFill 4 = .ok (.aload_n 0, 1) := by decide +kernel
theorem dX4_canFill_5 : decode cX4_canFill 5 = .ok (.getfield 23, 3) := by decide +kernel
theorem dX4_canFill_8 : decode cX4_canFill 8 = .ok (.ishl, 1) := by decide +kernel
theorem dX4_canFill_9 : decode cX4_canFill 9 = .ok (.if_icmp .ge 32, 3) := by decide +kernel
theorem dX4_canFill_12 : decode cX4_canFill 12 = .ok (.iload_n 3, 1) := by decide +kernel
theorem dX4_canFill_13 : decode cX4_canFill 13 = .ok (.invokestatic 31, 3) := by decide +kernel
theorem dX4_canFill_16 : decode cX4_canFill 16 = .ok (.iload_n 1, 1) := by decide +kernel
theorem dX4_canFill_17 : decode cX4_canFill 17 = .ok (.if_icmp .lt 18, 3) := by decide +kernel
theorem dX4_canFill_20 : decode cX4_canFill 20 = .ok (.aload_n 0, 1) := by decide +kernel
theorem dX4_canFill_21 : decode cX4_canFill 21 = .ok (.iload_n 3, 1) := by decide +kernel
theorem dX4_canFill_22 : decode cX4_canFill 22 = .ok (.iload_n 2, 1) := by decide +kernel
theorem dX4_canFill_23 : decode cX4_canFill 23 = .ok (.invokevirtual 36, 3) := by decide +kernel
theorem dX4_canFill_26 : decode cX4_canFill 26 = .ok (.iload_n 3, 1) := by decide +kernel
theorem dX4_canFill_27 : decode cX4_canFill 27 = .ok (.invokestatic 39, 3) := by decide +kernel
theorem dX4_canFill_30 : decode cX4_canFill 30 = .ok (.if_icmp .ge 5, 3) := by decide +kernel
theorem dX4_canFill_33 : decode cX4_canFill 33 = .ok (.iconst 0, 1) := by decide +kernel
theorem dX4_canFill_34 : decode cX4_canFill 34 = .ok (.ireturn, 1) := by decide +kernel
theorem dX4_canFill_35 : decode cX4_canFill 35 = .ok (.iinc 3 1, 3) := by decide +kernel
theorem dX4_canFill_38 : decode cX4_canFill 38 = .ok (.goto (-36), 3) := by decide +kernel
theorem dX4_canFill_41 : decode cX4_canFill 41 = .ok (.iconst 1, 1) := by decide +kernel
theorem dX4_canFill_42 : decode cX4_canFill 42 = .ok (.ireturn, 1) := by decide +kernel
theorem dX4_stepsTogether_0 : decode cX4_stepsTogether 0 = .ok (.iconst 0, 1) := by decide +kernel
theorem dX4_stepsTogether_1 : decode cX4_stepsTogether 1 = .ok (.istore_n 3, 1) := by decide +kernel
theorem dX4_stepsTogether_2 : decode cX4_stepsTogether 2 = .ok (.iconst 0, 1) := by decide +kernel
theorem dX4_stepsTogether_3 : decode cX4_stepsTogether 3 = .ok (.istore 4, 2) := by decide +kernel
theorem dX4_stepsTogether_5 : decode cX4_stepsTogether 5 = .ok (.iload 4, 2) := by decide +kernel
theorem dX4_stepsTogether_7 : decode cX4_stepsTogether 7 = .ok (.aload_n 0, 1) := by decide +kernel
theorem dX4_stepsTogether_8 : decode cX4_stepsTogether 8 = .ok (.getfield 23, 3) := by decide +kernel
theorem dX4_stepsTogether_11 : decode cX4_stepsTogether 11 = .ok (.if_icmp .ge 31, 3) := by decide +kernel
theorem dX4_stepsTogether_14 : decode cX4_stepsTogether 14 = .ok (.iload_n 1, 1) := by decide +kernel
theorem dX4_stepsTogether_15 : decode cX4_stepsTogether 15 = .ok (.iload 4, 2) := by decide +kernel
theorem dX4_stepsTogether_17 : decode cX4_stepsTogether 17 = .ok (.ishr, 1) := by decide +kernel
theorem dX4_stepsTogether_18 : decode cX4_stepsTogether 18 = .ok (.iconst 1, 1) := by decide +kernel
theorem dX4_stepsTogether_19 : decode cX4_stepsTogether 19 = .ok (.iand, 1) := by decide +kernel
theorem dX4_stepsTogether_20 : decode cX4_stepsTogether 20 = .ok (.iconst 1, 1) := by decide +kernel
theorem dX4_stepsTogether_21 : decode cX4_stepsTogether 21 = .ok (.if_icmp .ne 15, 3) := by decide +kernel
theorem dX4_stepsTogether_24 : decode cX4_stepsTogether 24 = .ok (.iload_n 3, 1) := by decide +kernel
theorem dX4_stepsTogether_25 : decode cX4_stepsTogether 25 = .ok (.aload_n 0, 1) := by decide +kernel
theorem dX4_stepsTogether_26 : decode cX4_stepsTogether 26 = .ok (.getfield 9, 3) := by decide +kernel
theorem dX4_stepsTogether_29 : decode cX4_stepsTogether 29 = .ok (.iload 4, 2) := by decide +kernel
theorem dX4_stepsTogether_31 : decode cX4_stepsTogether 31 = .ok (.iaload, 1) := by decide +kernel
theorem dX4_stepsTogether_32 : decode cX4_stepsTogether 32 = .ok (.iload_n 2, 1) := by decide +kernel
theorem dX4_stepsTogether_33 : decode cX4_stepsTogether 33 = .ok (.iand, 1) := by decide +kernel
theorem dX4_stepsTogether_34 : decode cX4_stepsTogether 34 = .ok (.ior, 1) := by decide +kernel
theorem dX4_stepsTogether_35 : decode cX4_stepsTogether 35 = .ok (.istore_n 3, 1) := by decide +kernel
theorem dX4_stepsTogether_36 : decode cX4_stepsTogether 36 = .ok (.iinc 4 1, 3) := by decide +kernel
theorem dX4_stepsTogether_39 : decode cX4_stepsTogether 39 = .ok (.goto (-34), 3) := by decide +kernel
theorem dX4_stepsTogether_42 : decode cX4_stepsTogether 42 = .ok (.iload_n 3, 1) := by decide +kernel
theorem dX4_stepsTogether_43 : decode cX4_stepsTogether 43 = .ok (.invokestatic 39, 3) := by decide +kernel
theorem dX4_stepsTogether_46 : decode cX4_stepsTogether 46 = .ok (.ireturn, 1) := by decide +kernel
theorem dX5_init_0 : decode cX5_init 0 = .ok (.aload_n 0, 1) := by decide +kernel
theorem dX5_init_1 : decode cX5_init 1 = .ok (.invokespecial 3, 3) := by decide +kernel
theorem dX5_init_4 : decode cX5_init 4 = .ok (.aload_n 0, 1) := by decide +kernel
theorem dX5_init_5 : decode cX5_init 5 = .ok (.sipush 150, 3) := by decide +kernel
theorem dX5_init_8 : decode cX5_init 8 = .ok (.newarray .int, 2) := by decide +kernel
theorem dX5_init_10 : decode cX5_init 10 = .ok (.putfield 9, 3) := by decide +kernel
theorem dX5_init_13 : decode cX5_init 13 = .ok (.aload_n 0, 1) := by decide +kernel
theorem dX5_init_14 : decode cX5_init 14 = .ok (.iconst 3, 1) := by decide +kernel
theorem dX5_init_15 : decode cX5_init 15 = .ok (.newarray .int, 2) := by decide +kernel
theorem dX5_init_17 : decode cX5_init 17 = .ok (.putfield 15, 3) := by decide +kernel
theorem dX5_init_20 : decode cX5_init 20 = .ok (.return_, 1) := by decide +kernel
theorem dX5_append_0 : decode cX5_append 0 = .ok (.aload_n 0, 1) := by decide +kernel
theorem dX5_append_1 : decode cX5_append 1 = .ok (.getfield 18, 3) := by decide +kernel
theorem dX5_append_4 : decode cX5_append 4 = .ok (.sipush 150, 3) := by decide +kernel
theorem dX5_append_7 : decode cX5_append 7 = .ok (.if_icmp .ge 23, 3) := by decide +kernel
theorem dX5_append_10 : decode cX5_append 10 = .ok (.aload_n 0, 1) := by decide +kernel
theorem dX5_append_11 : decode cX5_append 11 = .ok (.getfield 9, 3) := by decide +kernel
theorem dX5_append_14 : decode cX5_append 14 = .ok (.aload_n 0, 1) := by decide +kernel
theorem dX5_append_15 : decode cX5_append 15 = .ok (.getfield 18, 3) := by decide +kernel
theorem dX5_append_18 : decode cX5_append 18 = .ok (.iload_n 1, 1) := by decide +kernel
theorem dX5_append_19 : decode cX5_append 19 = .ok (.iastore, 1) := by decide +kernel
theorem dX5_append_20 : decode cX5_append 20 = .ok (.aload_n 0, 1) := by decide +kernel
theorem dX5_append_21 : decode cX5_append 21 = .ok (.dup, 1) := by decide +kernel
theorem dX5_append_22 : decode cX5_append 22 = .ok (.getfield 18, 3) := by decide +kernel
theorem dX5_append_25 : decode cX5_append 25 = .ok (.iconst 1, 1) := by decide +kernel
theorem dX5_append_26 : decode cX5_append 26 = .ok (.iadd, 1) := by decide +kernel
theorem dX5_append_27 : decode cX5_append 27 = .ok (.putfield 18, 3) := by decide +kernel
theorem dX5_append_30 : decode cX5_append 30 = .ok (.return_, 1) := by decide +kernel
theorem dX5_readInto_0 : decode cX5_readInto 0 = .ok (.aload_n 0, 1) := by decide +kernel
theorem dX5_readInto_1 : decode cX5_readInto 1 = .ok (.iconst 0, 1) := by decide +kernel
theorem dX5_readInto_2 : decode cX5_readInto 2 = .ok (.putfield 22, 3) := by decide +kernel
theorem dX5_readInto_5 : decode cX5_readInto 5 = .ok (.aload_n 1, 1) := by decide +kernel
theorem dX5_readInto_6 : decode cX5_readInto 6 = .ok (.invokevirtual 25, 3) := by decide +kernel
theorem dX5_readInto_9 : decode cX5_readInto 9 = .ok (.iconst 0, 1) := by decide +kernel
theorem dX5_readInto_10 : decode cX5_readInto 10 = .ok (.istore_n 3, 1) := by decide +kernel
theorem dX5_readInto_11 : decode cX5_readInto 11 = .ok (.iload_n 3, 1) := by decide +kernel
theorem dX5_readInto_12 : decode cX5_readInto 12 = .ok (.aload_n 0, 1) := by decide +kernel
theorem dX5_readInto_13 : decode cX5_readInto 13 = .ok (.getfield 18, 3) := by decide +kernel
theorem dX5_readInto_16 : decode cX5_readInto 16 = .ok (.if_icmp .gt 52, 3) := by decide +kernel
theorem dX5_readInto_19 : decode cX5_readInto 19 = .ok (.aload_n 0, 1) := by decide +kernel
theorem dX5_readInto_20 : decode cX5_readInto 20 = .ok (.invokevirtual 30, 3) := by decide +kernel
theorem dX5_readInto_23 : decode cX5_readInto 23 = .ok (.aload_n 0, 1) := by decide +kernel
theorem dX5_readInto_24 : decode cX5_readInto 24 = .ok (.getfield 33, 3) := by decide +kernel
theorem dX5_readInto_27 : decode cX5_readInto 27 = .ok (.ifCond .ne 9, 3) := by decide +kernel
theorem dX5_readInto_30 : decode cX5_readInto 30 = .ok (.iload_n 3, 1) := by decide +kernel
theorem dX5_readInto_31 : decode cX5_readInto 31 = .ok (.ifCond .le 5, 3) := by decide +kernel
theorem dX5_readInto_34 : decode cX5_readInto 34 = .ok (.iload_n 3, 1) := by decide +kernel
theorem dX5_readInto_35 : decode cX5_readInto 35 = .ok (.ireturn, 1) := by decide +kernel
theorem dX5_readInto_36 : decode cX5_readInto 36 = .ok (.aload_n 0, 1) := by decide +kernel
theorem dX5_readInto_37 : decode cX5_readInto 37 = .ok (.iload_n 3, 1) := by decide +kernel
theorem dX5_readInto_38 : decode cX5_readInto 38 = .ok (.ifCond .ne 7, 3) := by decide +kernel
theorem dX5_readInto_41 : decode cX5_readInto 41 = .ok (.iconst 1, 1) := by decide +kernel
theorem dX5_readInto_42 : decode cX5_readInto 42 = .ok (.goto 4, 3) := by decide +kernel
theorem dX5_readInto_45 : decode cX5_readInto 45 = .ok (.iconst 0, 1) := by decide +kernel
theorem dX5_readInto_46 : decode cX5_readInto 46 = .ok (.aload_n 1, 1) := by decide +kernel
theorem dX5_readInto_47 : decode cX5_readInto 47 = .ok (.invokevirtual 36, 3) := by decide +kernel
theorem dX5_readInto_50 : decode cX5_readInto 50 = .ok (.ifCond .ne 6, 3) := by decide +kernel
theorem dX5_readInto_53 : decode cX5_readInto 53 = .ok (.goto 15, 3) := by decide +kernel
theorem dX5_readInto_56 : decode cX5_readInto 56 = .ok (.aload_n 0, 1) := by decide +kernel
theorem dX5_readInto_57 : decode cX5_readInto 57 = .ok (.aload_n 1, 1) := by decide +kernel
theorem dX5_readInto_58 : decode cX5_readInto 58 = .ok (.aload_n 2, 1) := by decide +kernel
theorem dX5_readInto_59 : decode cX5_readInto 59 = .ok (.invokevirtual 40, 3) := by decide +kernel
theorem dX5_readInto_62 : decode cX5_readInto 62 = .ok (.iinc 3 1, 3) := by decide +kernel
theorem dX5_readInto_65 : decode cX5_readInto 65 = .ok (.goto (-54), 3) := by decide +kernel
theorem dX5_readInto_68 : decode cX5_readInto 68 = .ok (.bipush (-10), 2) := by decide +kernel
theorem dX5_readInto_70 : decode cX5_readInto 70 = .ok (.aload_n 0, 1) := by decide +kernel
theorem dX5_readInto_71 : decode cX5_readInto 71 = .ok (.getfield 44, 3) := by decide +kernel
theorem dX5_readInto_74 : decode cX5_readInto 74 = .ok (.isub, 1) := by decide +kernel
theorem dX5_readInto_75 : decode cX5_readInto 75 = .ok (.ireturn, 1) := by decide +kernel
theorem dX5_takeItem_0 : decode cX5_takeItem 0 = .ok (.aload_n 0, 1) := by decide +kernel
theorem dX5_takeItem_1 : decode cX5_takeItem 1 = .ok (.getfield 33, 3) := by decide +kernel
theorem dX5_takeItem_4 : decode cX5_takeItem 4 = .ok (.iconst 1, 1) := by decide +kernel
theorem dX5_takeItem_5 : decode cX5_takeItem 5 = .ok (.if_icmp .ne 15, 3) := by decide +kernel
theorem dX5_takeItem_8 : decode cX5_takeItem 8 = .ok (.aload_n 0, 1) := by decide +kernel
theorem dX5_takeItem_9 : decode cX5_takeItem 9 = .ok (.getfield 47, 3) := by decide +kernel
theorem dX5_takeItem_12 : decode cX5_takeItem 12 = .ok (.iload_n 1, 1) := by decide +kernel
theorem dX5_takeItem_13 : decode cX5_takeItem 13 = .ok (.aload_n 2, 1) := by decide +kernel
theorem dX5_takeItem_14 : decode cX5_takeItem 14 = .ok (.invokestatic 50, 3) := by decide +kernel
theorem dX5_takeItem_17 : decode cX5_takeItem 17 = .ok (.ifCond .ne 5, 3) := by decide +kernel
theorem dX5_takeItem_20 : decode cX5_takeItem 20 = .ok (.iconst 0, 1) := by decide +kernel
theorem dX5_takeItem_21 : decode cX5_takeItem 21 = .ok (.ireturn, 1) := by decide +kernel
theorem dX5_takeItem_22 : decode cX5_takeItem 22 = .ok (.aload_n 0, 1) := by decide +kernel
theorem dX5_takeItem_23 : decode cX5_takeItem 23 = .ok (.aload_n 0, 1) := by decide +kernel
theorem dX5_takeItem_24 : decode cX5_takeItem 24 = .ok (.getfield 47, 3) := by decide +kernel
theorem dX5_takeItem_27 : decode cX5_takeItem 27 = .ok (.putfield 54, 3) := by decide +kernel
theorem dX5_takeItem_30 : decode cX5_takeItem 30 = .ok (.iconst 0, 1) := by decide +kernel
theorem dX5_takeItem_31 : decode cX5_takeItem 31 = .ok (.istore_n 3, 1) := by decide +kernel
theorem dX5_takeItem_32 : decode cX5_takeItem 32 = .ok (.iload_n 3, 1) := by decide +kernel
theorem dX5_takeItem_33 : decode cX5_takeItem 33 = .ok (.aload_n 0, 1) := by decide +kernel
theorem dX5_takeItem_34 : decode cX5_takeItem 34 = .ok (.getfield 54, 3) := by decide +kernel
theorem dX5_takeItem_37 : decode cX5_takeItem 37 = .ok (.invokestatic 57, 3) := by decide +kernel
theorem dX5_takeItem_40 : decode cX5_takeItem 40 = .ok (.if_icmp .ge 76, 3) := by decide +kernel
theorem dX5_takeItem_43 : decode cX5_takeItem 43 = .ok (.iload_n 3, 1) := by decide +kernel
theorem dX5_takeItem_44 : decode cX5_takeItem 44 = .ok (.aload_n 0, 1) := by decide +kernel
theorem dX5_takeItem_45 : decode cX5_takeItem 45 = .ok (.getfield 15, 3) := by decide +kernel
theorem dX5_takeItem_48 : decode cX5_takeItem 48 = .ok (.arraylength, 1) := by decide +kernel
theorem dX5_takeItem_49 : decode cX5_takeItem 49 = .ok (.if_icmp .ge 67, 3) := by decide +kernel
theorem dX5_takeItem_52 : decode cX5_takeItem 52 = .ok (.aload_n 0, 1) := by decide +kernel
theorem dX5_takeItem_53 : decode cX5_takeItem 53 = .ok (.invokevirtual 30, 3) := by decide +kernel
theorem dX5_takeItem_56 : decode cX5_takeItem 56 = .ok (.aload_n 0, 1) := by decide +kernel
theorem dX5_takeItem_57 : decode cX5_takeItem 57 = .ok (.getfield 33, 3) := by decide +kernel
theorem dX5_takeItem_60 : decode cX5_takeItem 60 = .ok (.iconst 2, 1) := by decide +kernel
theorem dX5_takeItem_61 : decode cX5_takeItem 61 = .ok (.if_icmp .ne 37, 3) := by decide +kernel
theorem dX5_takeItem_64 : decode cX5_takeItem 64 = .ok (.aload_n 0, 1) := by decide +kernel
theorem dX5_takeItem_65 : decode cX5_takeItem 65 = .ok (.getfield 47, 3) := by decide +kernel
theorem dX5_takeItem_68 : decode cX5_takeItem 68 = .ok (.aload_n 0, 1) := by decide +kernel
theorem dX5_takeItem_69 : decode cX5_takeItem 69 = .ok (.getfield 54, 3) := by decide +kernel
theorem dX5_takeItem_72 : decode cX5_takeItem 72 = .ok (.iload_n 3, 1) := by decide +kernel
theorem dX5_takeItem_73 : decode cX5_takeItem 73 = .ok (.invokestatic 61, 3) := by decide +kernel
theorem dX5_takeItem_76 : decode cX5_takeItem 76 = .ok (.if_icmp .lt 22, 3) := by decide +kernel
theorem dX5_takeItem_79 : decode cX5_takeItem 79 = .ok (.aload_n 0, 1) := by decide +kernel
theorem dX5_takeItem_80 : decode cX5_takeItem 80 = .ok (.getfield 47, 3) := by decide +kernel
theorem dX5_takeItem_83 : decode cX5_takeItem 83 = .ok (.aload_n 0, 1) := by decide +kernel
theorem dX5_takeItem_84 : decode cX5_takeItem 84 = .ok (.getfield 54, 3) := by decide +kernel
theorem dX5_takeItem_87 : decode cX5_takeItem 87 = .ok (.iload_n 3, 1) := by decide +kernel
theorem dX5_takeItem_88 : decode cX5_takeItem 88 = .ok (.aload_n 2, 1) := by decide +kernel
theorem dX5_takeItem_89 : decode cX5_takeItem 89 = .ok (.getfield 65, 3) := by decide +kernel
theorem dX5_takeItem_92 : decode cX5_takeItem 92 = .ok (.invokestatic 68, 3) := by decide +kernel
theorem dX5_takeItem_95 : decode cX5_takeItem 95 = .ok (.if_icmp .le 5, 3) := by decide +kernel
theorem dX5_takeItem_98 : decode cX5_takeItem 98 = .ok (.iconst 0, 1) := by decide +kernel
theorem dX5_takeItem_99 : decode cX5_takeItem 99 = .ok (.ireturn, 1) := by decide +kernel
theorem dX5_takeItem_100 : decode cX5_takeItem 100 = .ok (.aload_n 0, 1) := by decide +kernel
theorem dX5_takeItem_101 : decode cX5_takeItem 101 = .ok (.getfield 15, 3) := by decide +kernel
theorem dX5_takeItem_104 : decode cX5_takeItem 104 = .ok (.iload_n 3, 1) := by decide +kernel
theorem dX5_takeItem_105 : decode cX5_takeItem 105 = .ok (.aload_n 0, 1) := by decide +kernel
theorem dX5_takeItem_106 : decode cX5_takeItem 106 = .ok (.getfield 47, 3) := by decide +kernel
theorem dX5_takeItem_109 : decode cX5_takeItem 109 = .ok (.iastore, 1) := by decide +kernel
theorem dX5_takeItem_110 : decode cX5_takeItem 110 = .ok (.iinc 3 1, 3) := by decide +kernel
theorem dX5_takeItem_113 : decode cX5_takeItem 113 = .ok (.goto (-81), 3) := by decide +kernel
theorem dX5_takeItem_116 : decode cX5_takeItem 116 = .ok (.aload_n 0, 1) := by decide +kernel
theorem dX5_takeItem_117 : decode cX5_takeItem 117 = .ok (.invokevirtual 30, 3) := by decide +kernel
theorem dX5_takeItem_120 : decode cX5_takeItem 120 = .ok (.aload_n 0, 1) := by decide +kernel
theorem dX5_takeItem_121 : decode cX5_takeItem 121 = .ok (.getfield 33, 3) := by decide +kernel
theorem dX5_takeItem_124 : decode cX5_takeItem 124 = .ok (.iconst 3, 1) := by decide +kernel
theorem dX5_takeItem_125 : decode cX5_takeItem 125 = .ok (.if_icmp .ne 7, 3) := by decide +kernel
theorem dX5_takeItem_128 : decode cX5_takeItem 128 = .ok (.iconst 1, 1) := by decide +kernel
theorem dX5_takeItem_129 : decode cX5_takeItem 129 = .ok (.goto 4, 3) := by decide +kernel
theorem dX5_takeItem_132 : decode cX5_takeItem 132 = .ok (.iconst 0, 1) := by decide +kernel
theorem dX5_takeItem_133 : decode cX5_takeItem 133 = .ok (.ireturn, 1) := by decide +kernel
theorem dX5_mayStand_0 : decode cX5_mayStand 0 = .ok (.iload_n 1, 1) := by decide +kernel
theorem dX5_mayStand_1 : decode cX5_mayStand 1 = .ok (.ifCond .ne 7, 3) := by decide +kernel
theorem dX5_mayStand_4 : decode cX5_mayStand 4 = .ok (.iload_n 0, 1) := by decide +kernel
theorem dX5_mayStand_5 : decode cX5_mayStand 5 = .ok (.ifCond .ne 17, 3) := by decide +kernel
theorem dX5_mayStand_8 : decode cX5_mayStand 8 = .ok (.iload_n 1, 1) := by decide +kernel
theorem dX5_mayStand_9 : decode cX5_mayStand 9 = .ok (.ifCond .eq 11, 3) := by decide +kernel
theorem dX5_mayStand_12 : decode cX5_mayStand 12 = .ok (.iload_n 0, 1) := by decide +kernel
theorem dX5_mayStand_13 : decode cX5_mayStand 13 = .ok (.ifCond .ne 7, 3) := by decide +kernel
theorem dX5_mayStand_16 : decode cX5_mayStand 16 = .ok (.iconst 1, 1) := by decide +kernel
theorem dX5_mayStand_17 : decode cX5_mayStand 17 = .ok (.goto 4, 3) := by decide +kernel
theorem dX5_mayStand_20 : decode cX5_mayStand 20 = .ok (.iconst 0, 1) := by decide +kernel
theorem dX5_mayStand_21 : decode cX5_mayStand 21 = .ok (.ireturn, 1) := by decide +kernel
theorem dX5_mayStand_22 : decode cX5_mayStand 22 = .ok (.iload_n 0, 1) := by decide +kernel
theorem dX5_mayStand_23 : decode cX5_mayStand 23 = .ok (.iconst 1, 1) := by decide +kernel
theorem dX5_mayStand_24 : decode cX5_mayStand 24 = .ok (.if_icmp .ne 17, 3) := by decide +kernel
theorem dX5_mayStand_27 : decode cX5_mayStand 27 = .ok (.aload_n 2, 1) := by decide +kernel
theorem dX5_mayStand_28 : decode cX5_mayStand 28 = .ok (.getfield 65, 3) := by decide +kernel
theorem dX5_mayStand_31 : decode cX5_mayStand 31 = .ok (.iconst 5, 1) := by decide +kernel
theorem dX5_mayStand_32 : decode cX5_mayStand 32 = .ok (.if_icmp .ge 7, 3) := by decide +kernel
theorem dX5_mayStand_35 : decode cX5_mayStand 35 = .ok (.iconst 1, 1) := by decide +kernel
theorem dX5_mayStand_36 : decode cX5_mayStand 36 = .ok (.goto 4, 3) := by decide +kernel
theorem dX5_mayStand_39 : decode cX5_mayStand 39 = .ok (.iconst 0, 1) := by decide +kernel
theorem dX5_mayStand_40 : decode cX5_mayStand 40 = .ok (.ireturn, 1) := by decide +kernel
theorem dX5_mayStand_41 : decode cX5_mayStand 41 = .ok (.iload_n 0, 1) := by decide +kernel
theorem dX5_mayStand_42 : decode cX5_mayStand 42 = .ok (.iconst 3, 1) := by decide +kernel
theorem dX5_mayStand_43 : decode cX5_mayStand 43 = .ok (.if_icmp .ne 18, 3) := by decide +kernel
theorem dX5_mayStand_46 : decode cX5_mayStand 46 = .ok (.aload_n 2, 1) := by decide +kernel
theorem dX5_mayStand_47 : decode cX5_mayStand 47 = .ok (.getfield 72, 3) := by decide +kernel
theorem dX5_mayStand_50 : decode cX5_mayStand 50 = .ok (.bipush 6, 2) := by decide +kernel
theorem dX5_mayStand_52 : decode cX5_mayStand 52 = .ok (.if_icmp .ge 7, 3) := by decide +kernel
theorem dX5_mayStand_55 : decode cX5_mayStand 55 = .ok (.iconst 1, 1) := by decide +kernel
theorem dX5_mayStand_56 : decode cX5_mayStand 56 = .ok (.goto 4, 3) := by decide +kernel
theorem dX5_mayStand_59 : decode cX5_mayStand 59 = .ok (.iconst 0, 1) := by decide +kernel
theorem dX5_mayStand_60 : decode cX5_mayStand 60 = .ok (.ireturn, 1) := by decide +kernel
theorem dX5_mayStand_61 : decode cX5_mayStand 61 = .ok (.iload_n 0, 1) := by decide +kernel
theorem dX5_mayStand_62 : decode cX5_mayStand 62 = .ok (.iconst (-1), 1) := by decide +kernel
theorem dX5_mayStand_63 : decode cX5_mayStand 63 = .ok (.if_icmp .eq 7, 3) := by decide +kernel
theorem dX5_mayStand_66 : decode cX5_mayStand 66 = .ok (.iconst 1, 1) := by decide +kernel
theorem dX5_mayStand_67 : decode cX5_mayStand 67 = .ok (.goto 4, 3) := by decide +kernel
theorem dX5_mayStand_70 : decode cX5_mayStand 70 = .ok (.iconst 0, 1) := by decide +kernel
theorem dX5_mayStand_71 : decode cX5_mayStand 71 = .ok (.ireturn, 1) := by decide +kernel
theorem dX5_numbersBehind_0 : decode cX5_numbersBehind 0 = .ok (.iload_n 0, 1) := by decide +kernel
theorem dX5_numbersBehind_1 : decode cX5_numbersBehind 1 = .ok (.tableswitch 37 0 3 #[31, 33, 37, 35], 31) := by decide +kernel
theorem dX5_numbersBehind_32 : decode cX5_numbersBehind 32 = .ok (.iconst 0, 1) := by decide +kernel
theorem dX5_numbersBehind_33 : decode cX5_numbersBehind 33 = .ok (.ireturn, 1) := by decide +kernel
theorem dX5_numbersBehind_34 : decode cX5_numbersBehind 34 = .ok (.iconst 3, 1) := by decide +kernel
theorem dX5_numbersBehind_35 : decode cX5_numbersBehind 35 = .ok (.ireturn, 1) := by decide +kernel
theorem dX5_numbersBehind_36 : decode cX5_numbersBehind 36 = .ok (.iconst 2, 1) := by decide +kernel
theorem dX5_numbersBehind_37 : decode cX5_numbersBehind 37 = .ok (.ireturn, 1) := by decide +kernel
theorem dX5_numbersBehind_38 : decode cX5_numbersBehind 38 = .ok (.iconst 1, 1) := by decide +kernel
theorem dX5_numbersBehind_39 : decode cX5_numbersBehind 39 = .ok (.ireturn, 1) := by decide +kernel
theorem dX5_least_0 : decode cX5_least 0 = .ok (.iload_n 0, 1) := by decide +kernel
theorem dX5_least_1 : decode cX5_least 1 = .ok (.iconst 5, 1) := by decide +kernel
theorem dX5_least_2 : decode cX5_least 2 = .ok (.if_icmp .eq 13, 3) := by decide +kernel
theorem dX5_least_5 : decode cX5_least 5 = .ok (.iload_n 0, 1) := by decide +kernel
theorem dX5_least_6 : decode cX5_least 6 = .ok (.iconst 1, 1) := by decide +kernel
theorem dX5_least_7 : decode cX5_least 7 = .ok (.if_icmp .ne 12, 3) := by decide +kernel
theorem dX5_least_10 : decode cX5_least 10 = .ok (.iload_n 1, 1) := by decide +kernel
theorem dX5_least_11 : decode cX5_least 11 = .ok (.iconst 2, 1) := by decide +kernel
theorem dX5_least_12 : decode cX5_least 12 = .ok (.if_icmp .ne 7, 3) := by decide +kernel
theorem dX5_least_15 : decode cX5_least 15 = .ok (.iconst 1, 1) := by decide +kernel
theorem dX5_least_16 : decode cX5_least 16 = .ok (.goto 4, 3) := by decide +kernel
theorem dX5_least_19 : decode cX5_least 19 = .ok (.iconst 0, 1) := by decide +kernel
theorem dX5_least_20 : decode cX5_least 20 = .ok (.ireturn, 1) := by decide +kernel
theorem dX5_most_0 : decode cX5_most 0 = .ok (.iload_n 0, 1) := by decide +kernel
theorem dX5_most_1 : decode cX5_most 1 = .ok (.tableswitch 70 1 4 #[31, 63, 52, 67], 31) := by decide +kernel
theorem dX5_most_32 : decode cX5_most 32 = .ok (.iload_n 1, 1) := by decide +kernel
theorem dX5_most_33 : decode cX5_most 33 = .ok (.ifCond .ne 7, 3) := by decide +kernel
theorem dX5_most_36 : decode cX5_most 36 = .ok (.iconst 5, 1) := by decide +kernel
theorem dX5_most_37 : decode cX5_most 37 = .ok (.goto 15, 3) := by decide +kernel
theorem dX5_most_40 : decode cX5_most 40 = .ok (.iload_n 1, 1) := by decide +kernel
theorem dX5_most_41 : decode cX5_most 41 = .ok (.iconst 1, 1) := by decide +kernel
theorem dX5_most_42 : decode cX5_most 42 = .ok (.if_icmp .ne 8, 3) := by decide +kernel
theorem dX5_most_45 : decode cX5_most 45 = .ok (.bipush 29, 2) := by decide +kernel
theorem dX5_most_47 : decode cX5_most 47 = .ok (.goto 5, 3) := by decide +kernel
theorem dX5_most_50 : decode cX5_most 50 = .ok (.bipush 9, 2) := by decide +kernel
theorem dX5_most_52 : decode cX5_most 52 = .ok (.ireturn, 1) := by decide +kernel
theorem dX5_most_53 : decode cX5_most 53 = .ok (.iload_n 1, 1) := by decide +kernel
theorem dX5_most_54 : decode cX5_most 54 = .ok (.ifCond .ne 7, 3) := by decide +kernel
theorem dX5_most_57 : decode cX5_most 57 = .ok (.iconst 5, 1) := by decide +kernel
theorem dX5_most_58 : decode cX5_most 58 = .ok (.goto 5, 3) := by decide +kernel
theorem dX5_most_61 : decode cX5_most 61 = .ok (.bipush 29, 2) := by decide +kernel
theorem dX5_most_63 : decode cX5_most 63 = .ok (.ireturn, 1) := by decide +kernel
theorem dX5_most_64 : decode cX5_most 64 = .ok (.iload_n 2, 1) := by decide +kernel
theorem dX5_most_65 : decode cX5_most 65 = .ok (.iconst 1, 1) := by decide +kernel
theorem dX5_most_66 : decode cX5_most 66 = .ok (.isub, 1) := by decide +kernel
theorem dX5_most_67 : decode cX5_most 67 = .ok (.ireturn, 1) := by decide +kernel
theorem dX5_most_68 : decode cX5_most 68 = .ok (.bipush 29, 2) := by decide +kernel
theorem dX5_most_70 : decode cX5_most 70 = .ok (.ireturn, 1) := by decide +kernel
theorem dX5_most_71 : decode cX5_most 71 = .ok (.bipush 99, 2) := by decide +kernel
theorem dX5_most_73 : decode cX5_most 73 = .ok (.ireturn, 1) := by decide +kernel
theorem dX5_carryOut_0 : decode cX5_carryOut 0 = .ok (.aload_n 0, 1) := by decide +kernel
theorem dX5_carryOut_1 : decode cX5_carryOut 1 = .ok (.getfield 54, 3) := by decide +kernel
theorem dX5_carryOut_4 : decode cX5_carryOut 4 = .ok (.tableswitch 138 1 5 #[36, 82, 62, 110, 125], 36) := by decide +kernel
theorem dX5_carryOut_40 : decode cX5_carryOut 40 = .ok (.aload_n 1, 1) := by decide +kernel
theorem dX5_carryOut_41 : decode cX5_carryOut 41 = .ok (.aload_n 0, 1) := by decide +kernel
theorem dX5_carryOut_42 : decode cX5_carryOut 42 = .ok (.getfield 15, 3) := by decide +kernel
theorem dX5_carryOut_45 : decode cX5_carryOut 45 = .ok (.iconst 0, 1) := by decide +kernel
theorem dX5_carryOut_46 : decode cX5_carryOut 46 = .ok (.iaload, 1) := by decide +kernel
theorem dX5_carryOut_47 : decode cX5_carryOut 47 = .ok (.aload_n 0, 1) := by decide +kernel
theorem dX5_carryOut_48 : decode cX5_carryOut 48 = .ok (.getfield 15, 3) := by decide +kernel
theorem dX5_carryOut_51 : decode cX5_carryOut 51 = .ok (.iconst 1, 1) := by decide +kernel
theorem dX5_carryOut_52 : decode cX5_carryOut 52 = .ok (.iaload, 1) := by decide +kernel
theorem dX5_carryOut_53 : decode cX5_carryOut 53 = .ok (.aload_n 0, 1) := by decide +kernel
theorem dX5_carryOut_54 : decode cX5_carryOut 54 = .ok (.getfield 15, 3) := by decide +kernel
theorem dX5_carryOut_57 : decode cX5_carryOut 57 = .ok (.iconst 2, 1) := by decide +kernel
theorem dX5_carryOut_58 : decode cX5_carryOut 58 = .ok (.iaload, 1) := by decide +kernel
theorem dX5_carryOut_59 : decode cX5_carryOut 59 = .ok (.invokevirtual 75, 3) := by decide +kernel
theorem dX5_carryOut_62 : decode cX5_carryOut 62 = .ok (.pop, 1) := by decide +kernel
theorem dX5_carryOut_63 : decode cX5_carryOut 63 = .ok (.goto 79, 3) := by decide +kernel
theorem dX5_carryOut_66 : decode cX5_carryOut 66 = .ok (.aload_n 1, 1) := by decide +kernel
theorem dX5_carryOut_67 : decode cX5_carryOut 67 = .ok (.aload_n 0, 1) := by decide +kernel
theorem dX5_carryOut_68 : decode cX5_carryOut 68 = .ok (.getfield 15, 3) := by decide +kernel
theorem dX5_carryOut_71 : decode cX5_carryOut 71 = .ok (.iconst 0, 1) := by decide +kernel
theorem dX5_carryOut_72 : decode cX5_carryOut 72 = .ok (.iaload, 1) := by decide +kernel
theorem dX5_carryOut_73 : decode cX5_carryOut 73 = .ok (.aload_n 0, 1) := by decide +kernel
theorem dX5_carryOut_74 : decode cX5_carryOut 74 = .ok (.getfield 15, 3) := by decide +kernel
theorem dX5_carryOut_77 : decode cX5_carryOut 77 = .ok (.iconst 1, 1) := by decide +kernel
theorem dX5_carryOut_78 : decode cX5_carryOut 78 = .ok (.iaload, 1) := by decide +kernel
theorem dX5_carryOut_79 : decode cX5_carryOut 79 = .ok (.invokevirtual 78, 3) := by decide +kernel
theorem dX5_carryOut_82 : decode cX5_carryOut 82 = .ok (.pop, 1) := by decide +kernel
theorem dX5_carryOut_83 : decode cX5_carryOut 83 = .ok (.goto 59, 3) := by decide +kernel
theorem dX5_carryOut_86 : decode cX5_carryOut 86 = .ok (.aload_n 1, 1) := by decide +kernel
theorem dX5_carryOut_87 : decode cX5_carryOut 87 = .ok (.aload_n 0, 1) := by decide +kernel
theorem dX5_carryOut_88 : decode cX5_carryOut 88 = .ok (.getfield 15, 3) := by decide +kernel
theorem dX5_carryOut_91 : decode cX5_carryOut 91 = .ok (.iconst 0, 1) := by decide +kernel
theorem dX5_carryOut_92 : decode cX5_carryOut 92 = .ok (.iaload, 1) := by decide +kernel
theorem dX5_carryOut_93 : decode cX5_carryOut 93 = .ok (.invokevirtual 81, 3) := by decide +kernel
theorem dX5_carryOut_96 : decode cX5_carryOut 96 = .ok (.ifCond .eq 46, 3) := by decide +kernel
theorem dX5_carryOut_99 : decode cX5_carryOut 99 = .ok (.aload_n 1, 1) := by decide +kernel
theorem dX5_carryOut_100 : decode cX5_carryOut 100 = .ok (.getfield 85, 3) := by decide +kernel
theorem dX5_carryOut_103 : decode cX5_carryOut 103 = .ok (.aload_n 0, 1) := by decide +kernel
theorem dX5_carryOut_104 : decode cX5_carryOut 104 = .ok (.getfield 15, 3) := by decide +kernel
theorem dX5_carryOut_107 : decode cX5_carryOut 107 = .ok (.iconst 0, 1) := by decide +kernel
theorem dX5_carryOut_108 : decode cX5_carryOut 108 = .ok (.iaload, 1) := by decide +kernel
theorem dX5_carryOut_109 : decode cX5_carryOut 109 = .ok (.iconst 0, 1) := by decide +kernel
theorem dX5_carryOut_110 : decode cX5_carryOut 110 = .ok (.iastore, 1) := by decide +kernel
theorem dX5_carryOut_111 : decode cX5_carryOut 111 = .ok (.goto 31, 3) := by decide +kernel
theorem dX5_carryOut_114 : decode cX5_carryOut 114 = .ok (.aload_n 2, 1) := by decide +kernel
theorem dX5_carryOut_115 : decode cX5_carryOut 115 = .ok (.aload_n 1, 1) := by decide +kernel
theorem dX5_carryOut_116 : decode cX5_carryOut 116 = .ok (.aload_n 0, 1) := by decide +kernel
theorem dX5_carryOut_117 : decode cX5_carryOut 117 = .ok (.getfield 15, 3) := by decide +kernel
theorem dX5_carryOut_120 : decode cX5_carryOut 120 = .ok (.iconst 0, 1) := by decide +kernel
theorem dX5_carryOut_121 : decode cX5_carryOut 121 = .ok (.iaload, 1) := by decide +kernel
theorem dX5_carryOut_122 : decode cX5_carryOut 122 = .ok (.invokevirtual 88, 3) := by decide +kernel
theorem dX5_carryOut_125 : decode cX5_carryOut 125 = .ok (.pop, 1) := by decide +kernel
theorem dX5_carryOut_126 : decode cX5_carryOut 126 = .ok (.goto 16, 3) := by decide +kernel
theorem dX5_carryOut_129 : decode cX5_carryOut 129 = .ok (.aload_n 1, 1) := by decide +kernel
theorem dX5_carryOut_130 : decode cX5_carryOut 130 = .ok (.aload_n 0, 1) := by decide +kernel
theorem dX5_carryOut_131 : decode cX5_carryOut 131 = .ok (.getfield 15, 3) := by decide +kernel
theorem dX5_carryOut_134 : decode cX5_carryOut 134 = .ok (.iconst 0, 1) := by decide +kernel
theorem dX5_carryOut_135 : decode cX5_carryOut 135 = .ok (.iaload, 1) := by decide +kernel
theorem dX5_carryOut_136 : decode cX5_carryOut 136 = .ok (.invokevirtual 94, 3) := by decide +kernel
theorem dX5_carryOut_139 : decode cX5_carryOut 139 = .ok (.goto 3, 3) := by decide +kernel
theorem dX5_carryOut_142 : decode cX5_carryOut 142 = .ok (.return_, 1) := by decide +kernel
theorem dX5_byteAt_0 : decode cX5_byteAt 0 = .ok (.iload_n 1, 1) := by decide +kernel
theorem dX5_byteAt_1 : decode cX5_byteAt 1 = .ok (.ifCond .lt 29, 3) := by decide +kernel
theorem dX5_byteAt_4 : decode cX5_byteAt 4 = .ok (.iload_n 1, 1) := by decide +kernel
theorem dX5_byteAt_5 : decode cX5_byteAt 5 = .ok (.aload_n 0, 1) := by decide +kernel
theorem dX5_byteAt_6 : decode cX5_byteAt 6 = .ok (.getfield 18, 3) := by decide +kernel
theorem dX5_byteAt_9 : decode cX5_byteAt 9 = .ok (.if_icmp .ge 21, 3) := by decide +kernel
theorem dX5_byteAt_12 : decode cX5_byteAt 12 = .ok (.iload_n 1, 1) := by decide +kernel
theorem dX5_byteAt_13 : decode cX5_byteAt 13 = .ok (.aload_n 0, 1) := by decide +kernel
theorem dX5_byteAt_14 : decode cX5_byteAt 14 = .ok (.getfield 9, 3) := by decide +kernel
theorem dX5_byteAt_17 : decode cX5_byteAt 17 = .ok (.arraylength, 1) := by decide +kernel
theorem dX5_byteAt_18 : decode cX5_byteAt 18 = .ok (.if_icmp .ge 12, 3) := by decide +kernel
theorem dX5_byteAt_21 : decode cX5_byteAt 21 = .ok (.aload_n 0, 1) := by decide +kernel
theorem dX5_byteAt_22 : decode cX5_byteAt 22 = .ok (.getfield 9, 3) := by decide +kernel
theorem dX5_byteAt_25 : decode cX5_byteAt 25 = .ok (.iload_n 1, 1) := by decide +kernel
theorem dX5_byteAt_26 : decode cX5_byteAt 26 = .ok (.iaload, 1) := by decide +kernel
theorem dX5_byteAt_27 : decode cX5_byteAt 27 = .ok (.goto 4, 3) := by decide +kernel
theorem dX5_byteAt_30 : decode cX5_byteAt 30 = .ok (.iconst (-1), 1) := by decide +kernel
theorem dX5_byteAt_31 : decode cX5_byteAt 31 = .ok (.ireturn, 1) := by decide +kernel
theorem dX5_isLetterAt_0 : decode cX5_isLetterAt 0 = .ok (.aload_n 0, 1) := by decide +kernel
theorem dX5_isLetterAt_1 : decode cX5_isLetterAt 1 = .ok (.iload_n 1, 1) := by decide +kernel
theorem dX5_isLetterAt_2 : decode cX5_isLetterAt 2 = .ok (.invokevirtual 98, 3) := by decide +kernel
theorem dX5_isLetterAt_5 : decode cX5_isLetterAt 5 = .ok (.bipush 97, 2) := by decide +kernel
theorem dX5_isLetterAt_7 : decode cX5_isLetterAt 7 = .ok (.if_icmp .lt 17, 3) := by decide +kernel
theorem dX5_isLetterAt_10 : decode cX5_isLetterAt 10 = .ok (.aload_n 0, 1) := by decide +kernel
theorem dX5_isLetterAt_11 : decode cX5_isLetterAt 11 = .ok (.iload_n 1, 1) := by decide +kernel
theorem dX5_isLetterAt_12 : decode cX5_isLetterAt 12 = .ok (.invokevirtual 98, 3) := by decide +kernel
theorem dX5_isLetterAt_15 : decode cX5_isLetterAt 15 = .ok (.bipush 122, 2) := by decide +kernel
theorem dX5_isLetterAt_17 : decode cX5_isLetterAt 17 = .ok (.if_icmp .gt 7, 3) := by decide +kernel
theorem dX5_isLetterAt_20 : decode cX5_isLetterAt 20 = .ok (.iconst 1, 1) := by decide +kernel
theorem dX5_isLetterAt_21 : decode cX5_isLetterAt 21 = .ok (.goto 4, 3) := by decide +kernel
theorem dX5_isLetterAt_24 : decode cX5_isLetterAt 24 = .ok (.iconst 0, 1) := by decide +kernel
theorem dX5_isLetterAt_25 : decode cX5_isLetterAt 25 = .ok (.ireturn, 1) := by decide +kernel
theorem dX5_isFigureAt_0 : decode cX5_isFigureAt 0 = .ok (.aload_n 0, 1) := by decide +kernel
theorem dX5_isFigureAt_1 : decode cX5_isFigureAt 1 = .ok (.iload_n 1, 1) := by decide +kernel
theorem dX5_isFigureAt_2 : decode cX5_isFigureAt 2 = .ok (.invokevirtual 98, 3) := by decide +kernel
theorem dX5_isFigureAt_5 : decode cX5_isFigureAt 5 = .ok (.bipush 48, 2) := by decide +kernel
theorem dX5_isFigureAt_7 : decode cX5_isFigureAt 7 = .ok (.if_icmp .lt 17, 3) := by decide +kernel
theorem dX5_isFigureAt_10 : decode cX5_isFigureAt 10 = .ok (.aload_n 0, 1) := by decide +kernel
theorem dX5_isFigureAt_11 : decode cX5_isFigureAt 11 = .ok (.iload_n 1, 1) := by decide +kernel
theorem dX5_isFigureAt_12 : decode cX5_isFigureAt 12 = .ok (.invokevirtual 98, 3) := by decide +kernel
theorem dX5_isFigureAt_15 : decode cX5_isFigureAt 15 = .ok (.bipush 57, 2) := by decide +kernel
theorem dX5_isFigureAt_17 : decode cX5_isFigureAt 17 = .ok (.if_icmp .gt 7, 3) := by decide +kernel
theorem dX5_isFigureAt_20 : decode cX5_isFigureAt 20 = .ok (.iconst 1, 1) := by decide +kernel
theorem dX5_isFigureAt_21 : decode cX5_isFigureAt 21 = .ok (.goto 4, 3) := by decide +kernel
theorem dX5_isFigureAt_24 : decode cX5_isFigureAt 24 = .ok (.iconst 0, 1) := by decide +kernel
theorem dX5_isFigureAt_25 : decode cX5_isFigureAt 25 = .ok (.ireturn, 1) := by decide +kernel
theorem dX5_advance_0 : decode cX5_advance 0 = .ok (.aload_n 0, 1) := by decide +kernel
theorem dX5_advance_1 : decode cX5_advance 1 = .ok (.getfield 22, 3) := by decide +kernel
theorem dX5_advance_4 : decode cX5_advance 4 = .ok (.aload_n 0, 1) := by decide +kernel
theorem dX5_advance_5 : decode cX5_advance 5 = .ok (.getfield 18, 3) := by decide +kernel
theorem dX5_advance_8 : decode cX5_advance 8 = .ok (.if_icmp .ge 29, 3) := by decide +kernel
theorem dX5_advance_11 : decode cX5_advance 11 = .ok (.aload_n 0, 1) := by decide +kernel
theorem dX5_advance_12 : decode cX5_advance 12 = .ok (.aload_n 0, 1) := by decide +kernel
theorem dX5_advance_13 : decode cX5_advance 13 = .ok (.getfield 22, 3) := by decide +kernel
theorem dX5_advance_16 : decode cX5_advance 16 = .ok (.invokevirtual 98, 3) := by decide +kernel
theorem dX5_advance_19 : decode cX5_advance 19 = .ok (.bipush 32, 2) := by decide +kernel
theorem dX5_advance_21 : decode cX5_advance 21 = .ok (.if_icmp .ne 16, 3) := by decide +kernel
theorem dX5_advance_24 : decode cX5_advance 24 = .ok (.aload_n 0, 1) := by decide +kernel
theorem dX5_advance_25 : decode cX5_advance 25 = .ok (.dup, 1) := by decide +kernel
theorem dX5_advance_26 : decode cX5_advance 26 = .ok (.getfield 22, 3) := by decide +kernel
theorem dX5_advance_29 : decode cX5_advance 29 = .ok (.iconst 1, 1) := by decide +kernel
theorem dX5_advance_30 : decode cX5_advance 30 = .ok (.iadd, 1) := by decide +kernel
theorem dX5_advance_31 : decode cX5_advance 31 = .ok (.putfield 22, 3) := by decide +kernel
theorem dX5_advance_34 : decode cX5_advance 34 = .ok (.goto (-34), 3) := by decide +kernel
theorem dX5_advance_37 : decode cX5_advance 37 = .ok (.aload_n 0, 1) := by decide +kernel
theorem dX5_advance_38 : decode cX5_advance 38 = .ok (.aload_n 0, 1) := by decide +kernel
theorem dX5_advance_39 : decode cX5_advance 39 = .ok (.getfield 22, 3) := by decide +kernel
theorem dX5_advance_42 : decode cX5_advance 42 = .ok (.putfield 44, 3) := by decide +kernel
theorem dX5_advance_45 : decode cX5_advance 45 = .ok (.aload_n 0, 1) := by decide +kernel
theorem dX5_advance_46 : decode cX5_advance 46 = .ok (.getfield 22, 3) := by decide +kernel
theorem dX5_advance_49 : decode cX5_advance 49 = .ok (.aload_n 0, 1) := by decide +kernel
theorem dX5_advance_50 : decode cX5_advance 50 = .ok (.getfield 18, 3) := by decide +kernel
theorem dX5_advance_53 : decode cX5_advance 53 = .ok (.if_icmp .lt 11, 3) := by decide +kernel
theorem dX5_advance_56 : decode cX5_advance 56 = .ok (.aload_n 0, 1) := by decide +kernel
theorem dX5_advance_57 : decode cX5_advance 57 = .ok (.iconst 0, 1) := by decide +kernel
theorem dX5_advance_58 : decode cX5_advance 58 = .ok (.putfield 33, 3) := by decide +kernel
theorem dX5_advance_61 : decode cX5_advance 61 = .ok (.goto 92, 3) := by decide +kernel
theorem dX5_advance_64 : decode cX5_advance 64 = .ok (.aload_n 0, 1) := by decide +kernel
theorem dX5_advance_65 : decode cX5_advance 65 = .ok (.aload_n 0, 1) := by decide +kernel
theorem dX5_advance_66 : decode cX5_advance 66 = .ok (.getfield 22, 3) := by decide +kernel
theorem dX5_advance_69 : decode cX5_advance 69 = .ok (.invokevirtual 101, 3) := by decide +kernel
theorem dX5_advance_72 : decode cX5_advance 72 = .ok (.ifCond .eq 31, 3) := by decide +kernel
theorem dX5_advance_75 : decode cX5_advance 75 = .ok (.aload_n 0, 1) := by decide +kernel
theorem dX5_advance_76 : decode cX5_advance 76 = .ok (.iconst 1, 1) := by decide +kernel
theorem dX5_advance_77 : decode cX5_advance 77 = .ok (.putfield 33, 3) := by decide +kernel
theorem dX5_advance_80 : decode cX5_advance 80 = .ok (.aload_n 0, 1) := by decide +kernel
theorem dX5_advance_81 : decode cX5_advance 81 = .ok (.aload_n 0, 1) := by decide +kernel
theorem dX5_advance_82 : decode cX5_advance 82 = .ok (.aload_n 0, 1) := by decide +kernel
theorem dX5_advance_83 : decode cX5_advance 83 = .ok (.getfield 22, 3) := by decide +kernel
theorem dX5_advance_86 : decode cX5_advance 86 = .ok (.invokevirtual 104, 3) := by decide +kernel
theorem dX5_advance_89 : decode cX5_advance 89 = .ok (.putfield 22, 3) := by decide +kernel
theorem dX5_advance_92 : decode cX5_advance 92 = .ok (.aload_n 0, 1) := by decide +kernel
theorem dX5_advance_93 : decode cX5_advance 93 = .ok (.aload_n 0, 1) := by decide +kernel
theorem dX5_advance_94 : decode cX5_advance 94 = .ok (.invokevirtual 107, 3) := by decide +kernel
theorem dX5_advance_97 : decode cX5_advance 97 = .ok (.putfield 47, 3) := by decide +kernel
theorem dX5_advance_100 : decode cX5_advance 100 = .ok (.goto 53, 3) := by decide +kernel
theorem dX5_advance_103 : decode cX5_advance 103 = .ok (.aload_n 0, 1) := by decide +kernel
theorem dX5_advance_104 : decode cX5_advance 104 = .ok (.aload_n 0, 1) := by decide +kernel
theorem dX5_advance_105 : decode cX5_advance 105 = .ok (.getfield 22, 3) := by decide +kernel
theorem dX5_advance_108 : decode cX5_advance 108 = .ok (.invokevirtual 111, 3) := by decide +kernel
theorem dX5_advance_111 : decode cX5_advance 111 = .ok (.ifCond .eq 10, 3) := by decide +kernel
theorem dX5_advance_114 : decode cX5_advance 114 = .ok (.aload_n 0, 1) := by decide +kernel
theorem dX5_advance_115 : decode cX5_advance 115 = .ok (.invokevirtual 114, 3) := by decide +kernel
theorem dX5_advance_118 : decode cX5_advance 118 = .ok (.goto 35, 3) := by decide +kernel
theorem dX5_advance_121 : decode cX5_advance 121 = .ok (.aload_n 0, 1) := by decide +kernel
theorem dX5_advance_122 : decode cX5_advance 122 = .ok (.aload_n 0, 1) := by decide +kernel
theorem dX5_advance_123 : decode cX5_advance 123 = .ok (.aload_n 0, 1) := by decide +kernel
theorem dX5_advance_124 : decode cX5_advance 124 = .ok (.getfield 22, 3) := by decide +kernel
theorem dX5_advance_127 : decode cX5_advance 127 = .ok (.invokevirtual 98, 3) := by decide +kernel
theorem dX5_advance_130 : decode cX5_advance 130 = .ok (.bipush 59, 2) := by decide +kernel
theorem dX5_advance_132 : decode cX5_advance 132 = .ok (.if_icmp .ne 7, 3) := by decide +kernel
theorem dX5_advance_135 : decode cX5_advance 135 = .ok (.iconst 3, 1) := by decide +kernel
theorem dX5_advance_136 : decode cX5_advance 136 = .ok (.goto 4, 3) := by decide +kernel
theorem dX5_advance_139 : decode cX5_advance 139 = .ok (.iconst 4, 1) := by decide +kernel
theorem dX5_advance_140 : decode cX5_advance 140 = .ok (.putfield 33, 3) := by decide +kernel
theorem dX5_advance_143 : decode cX5_advance 143 = .ok (.aload_n 0, 1) := by decide +kernel
theorem dX5_advance_144 : decode cX5_advance 144 = .ok (.dup, 1) := by decide +kernel
theorem dX5_advance_145 : decode cX5_advance 145 = .ok (.getfield 22, 3) := by decide +kernel
theorem dX5_advance_148 : decode cX5_advance 148 = .ok (.iconst 1, 1) := by decide +kernel
theorem dX5_advance_149 : decode cX5_advance 149 = .ok (.iadd, 1) := by decide +kernel
theorem dX5_advance_150 : decode cX5_advance 150 = .ok (.putfield 22, 3) := by decide +kernel
theorem dX5_advance_153 : decode cX5_advance 153 = .ok (.return_, 1) := by decide +kernel
theorem dX5_wordEnd_0 : decode cX5_wordEnd 0 = .ok (.iload_n 1, 1) := by decide +kernel
theorem dX5_wordEnd_1 : decode cX5_wordEnd 1 = .ok (.istore_n 2, 1) := by decide +kernel
theorem dX5_wordEnd_2 : decode cX5_wordEnd 2 = .ok (.iload_n 2, 1) := by decide +kernel
theorem dX5_wordEnd_3 : decode cX5_wordEnd 3 = .ok (.aload_n 0, 1) := by decide +kernel
theorem dX5_wordEnd_4 : decode cX5_wordEnd 4 = .ok (.getfield 18, 3) := by decide +kernel
theorem dX5_wordEnd_7 : decode cX5_wordEnd 7 = .ok (.if_icmp .ge 17, 3) := by decide +kernel
theorem dX5_wordEnd_10 : decode cX5_wordEnd 10 = .ok (.aload_n 0, 1) := by decide +kernel
theorem dX5_wordEnd_11 : decode cX5_wordEnd 11 = .ok (.iload_n 2, 1) := by decide +kernel
theorem dX5_wordEnd_12 : decode cX5_wordEnd 12 = .ok (.invokevirtual 101, 3) := by decide +kernel
theorem dX5_wordEnd_15 : decode cX5_wordEnd 15 = .ok (.ifCond .eq 9, 3) := by decide +kernel
theorem dX5_wordEnd_18 : decode cX5_wordEnd 18 = .ok (.iinc 2 1, 3) := by decide +kernel
theorem dX5_wordEnd_21 : decode cX5_wordEnd 21 = .ok (.goto (-19), 3) := by decide +kernel
theorem dX5_wordEnd_24 : decode cX5_wordEnd 24 = .ok (.iload_n 2, 1) := by decide +kernel
theorem dX5_wordEnd_25 : decode cX5_wordEnd 25 = .ok (.ireturn, 1) := by decide +kernel
theorem dX5_takeNumber_0 : decode cX5_takeNumber 0 = .ok (.aload_n 0, 1) := by decide +kernel
theorem dX5_takeNumber_1 : decode cX5_takeNumber 1 = .ok (.iconst 0, 1) := by decide +kernel
theorem dX5_takeNumber_2 : decode cX5_takeNumber 2 = .ok (.putfield 47, 3) := by decide +kernel
theorem dX5_takeNumber_5 : decode cX5_takeNumber 5 = .ok (.aload_n 0, 1) := by decide +kernel
theorem dX5_takeNumber_6 : decode cX5_takeNumber 6 = .ok (.getfield 22, 3) := by decide +kernel
theorem dX5_takeNumber_9 : decode cX5_takeNumber 9 = .ok (.aload_n 0, 1) := by decide +kernel
theorem dX5_takeNumber_10 : decode cX5_takeNumber 10 = .ok (.getfield 18, 3) := by decide +kernel
theorem dX5_takeNumber_13 : decode cX5_takeNumber 13 = .ok (.if_icmp .ge 50, 3) := by decide +kernel
theorem dX5_takeNumber_16 : decode cX5_takeNumber 16 = .ok (.aload_n 0, 1) := by decide +kernel
theorem dX5_takeNumber_17 : decode cX5_takeNumber 17 = .ok (.aload_n 0, 1) := by decide +kernel
theorem dX5_takeNumber_18 : decode cX5_takeNumber 18 = .ok (.getfield 22, 3) := by decide +kernel
theorem dX5_takeNumber_21 : decode cX5_takeNumber 21 = .ok (.invokevirtual 111, 3) := by decide +kernel
theorem dX5_takeNumber_24 : decode cX5_takeNumber 24 = .ok (.ifCond .eq 39, 3) := by decide +kernel
theorem dX5_takeNumber_27 : decode cX5_takeNumber 27 = .ok (.aload_n 0, 1) := by decide +kernel
theorem dX5_takeNumber_28 : decode cX5_takeNumber 28 = .ok (.aload_n 0, 1) := by decide +kernel
theorem dX5_takeNumber_29 : decode cX5_takeNumber 29 = .ok (.getfield 47, 3) := by decide +kernel
theorem dX5_takeNumber_32 : decode cX5_takeNumber 32 = .ok (.bipush 10, 2) := by decide +kernel
theorem dX5_takeNumber_34 : decode cX5_takeNumber 34 = .ok (.imul, 1) := by decide +kernel
theorem dX5_takeNumber_35 : decode cX5_takeNumber 35 = .ok (.aload_n 0, 1) := by decide +kernel
theorem dX5_takeNumber_36 : decode cX5_takeNumber 36 = .ok (.aload_n 0, 1) := by decide +kernel
theorem dX5_takeNumber_37 : decode cX5_takeNumber 37 = .ok (.getfield 22, 3) := by decide +kernel
theorem dX5_takeNumber_40 : decode cX5_takeNumber 40 = .ok (.invokevirtual 98, 3) := by decide +kernel
theorem dX5_takeNumber_43 : decode cX5_takeNumber 43 = .ok (.iadd, 1) := by decide +kernel
theorem dX5_takeNumber_44 : decode cX5_takeNumber 44 = .ok (.bipush 48, 2) := by decide +kernel
theorem dX5_takeNumber_46 : decode cX5_takeNumber 46 = .ok (.isub, 1) := by decide +kernel
theorem dX5_takeNumber_47 : decode cX5_takeNumber 47 = .ok (.putfield 47, 3) := by decide +kernel
theorem dX5_takeNumber_50 : decode cX5_takeNumber 50 = .ok (.aload_n 0, 1) := by decide +kernel
theorem dX5_takeNumber_51 : decode cX5_takeNumber 51 = .ok (.dup, 1) := by decide +kernel
theorem dX5_takeNumber_52 : decode cX5_takeNumber 52 = .ok (.getfield 22, 3) := by decide +kernel
theorem dX5_takeNumber_55 : decode cX5_takeNumber 55 = .ok (.iconst 1, 1) := by decide +kernel
theorem dX5_takeNumber_56 : decode cX5_takeNumber 56 = .ok (.iadd, 1) := by decide +kernel
theorem dX5_takeNumber_57 : decode cX5_takeNumber 57 = .ok (.putfield 22, 3) := by decide +kernel
theorem dX5_takeNumber_60 : decode cX5_takeNumber 60 = .ok (.goto (-55), 3) := by decide +kernel
theorem dX5_takeNumber_63 : decode cX5_takeNumber 63 = .ok (.aload_n 0, 1) := by decide +kernel
theorem dX5_takeNumber_64 : decode cX5_takeNumber 64 = .ok (.aload_n 0, 1) := by decide +kernel
theorem dX5_takeNumber_65 : decode cX5_takeNumber 65 = .ok (.getfield 22, 3) := by decide +kernel
theorem dX5_takeNumber_68 : decode cX5_takeNumber 68 = .ok (.aload_n 0, 1) := by decide +kernel
theorem dX5_takeNumber_69 : decode cX5_takeNumber 69 = .ok (.getfield 44, 3) := by decide +kernel
theorem dX5_takeNumber_72 : decode cX5_takeNumber 72 = .ok (.isub, 1) := by decide +kernel
theorem dX5_takeNumber_73 : decode cX5_takeNumber 73 = .ok (.iconst 2, 1) := by decide +kernel
theorem dX5_takeNumber_74 : decode cX5_takeNumber 74 = .ok (.if_icmp .gt 7, 3) := by decide +kernel
theorem dX5_takeNumber_77 : decode cX5_takeNumber 77 = .ok (.iconst 2, 1) := by decide +kernel
theorem dX5_takeNumber_78 : decode cX5_takeNumber 78 = .ok (.goto 4, 3) := by decide +kernel
theorem dX5_takeNumber_81 : decode cX5_takeNumber 81 = .ok (.iconst 4, 1) := by decide +kernel
theorem dX5_takeNumber_82 : decode cX5_takeNumber 82 = .ok (.putfield 33, 3) := by decide +kernel
theorem dX5_takeNumber_85 : decode cX5_takeNumber 85 = .ok (.return_, 1) := by decide +kernel
theorem dX5_wordNumber_0 : decode cX5_wordNumber 0 = .ok (.aload_n 0, 1) := by decide +kernel
theorem dX5_wordNumber_1 : decode cX5_wordNumber 1 = .ok (.ldc 117, 2) := by decide +kernel
theorem dX5_wordNumber_3 : decode cX5_wordNumber 3 = .ok (.invokevirtual 119, 3) := by decide +kernel
theorem dX5_wordNumber_6 : decode cX5_wordNumber 6 = .ok (.ifCond .eq 5, 3) := by decide +kernel
theorem dX5_wordNumber_9 : decode cX5_wordNumber 9 = .ok (.iconst 0, 1) := by decide +kernel
theorem dX5_wordNumber_10 : decode cX5_wordNumber 10 = .ok (.ireturn, 1) := by decide +kernel
theorem dX5_wordNumber_11 : decode cX5_wordNumber 11 = .ok (.aload_n 0, 1) := by decide +kernel
theorem dX5_wordNumber_12 : decode cX5_wordNumber 12 = .ok (.ldc 123, 2) := by decide +kernel
theorem dX5_wordNumber_14 : decode cX5_wordNumber 14 = .ok (.invokevirtual 119, 3) := by decide +kernel
theorem dX5_wordNumber_17 : decode cX5_wordNumber 17 = .ok (.ifCond .eq 5, 3) := by decide +kernel
theorem dX5_wordNumber_20 : decode cX5_wordNumber 20 = .ok (.iconst 1, 1) := by decide +kernel
theorem dX5_wordNumber_21 : decode cX5_wordNumber 21 = .ok (.ireturn, 1) := by decide +kernel
theorem dX5_wordNumber_22 : decode cX5_wordNumber 22 = .ok (.aload_n 0, 1) := by decide +kernel
theorem dX5_wordNumber_23 : decode cX5_wordNumber 23 = .ok (.ldc 125, 2) := by decide +kernel
theorem dX5_wordNumber_25 : decode cX5_wordNumber 25 = .ok (.invokevirtual 119, 3) := by decide +kernel
theorem dX5_wordNumber_28 : decode cX5_wordNumber 28 = .ok (.ifCond .eq 5, 3) := by decide +kernel
theorem dX5_wordNumber_31 : decode cX5_wordNumber 31 = .ok (.iconst 2, 1) := by decide +kernel
theorem dX5_wordNumber_32 : decode cX5_wordNumber 32 = .ok (.ireturn, 1) := by decide +kernel
theorem dX5_wordNumber_33 : decode cX5_wordNumber 33 = .ok (.aload_n 0, 1) := by decide +kernel
theorem dX5_wordNumber_34 : decode cX5_wordNumber 34 = .ok (.ldc 127, 2) := by decide +kernel
theorem dX5_wordNumber_36 : decode cX5_wordNumber 36 = .ok (.invokevirtual 119, 3) := by decide +kernel
theorem dX5_wordNumber_39 : decode cX5_wordNumber 39 = .ok (.ifCond .eq 5, 3) := by decide +kernel
theorem dX5_wordNumber_42 : decode cX5_wordNumber 42 = .ok (.iconst 3, 1) := by decide +kernel
theorem dX5_wordNumber_43 : decode cX5_wordNumber 43 = .ok (.ireturn, 1) := by decide +kernel
theorem dX5_wordNumber_44 : decode cX5_wordNumber 44 = .ok (.aload_n 0, 1) := by decide +kernel
theorem dX5_wordNumber_45 : decode cX5_wordNumber 45 = .ok (.ldc 129, 2) := by decide +kernel
theorem dX5_wordNumber_47 : decode cX5_wordNumber 47 = .ok (.invokevirtual 119, 3) := by decide +kernel
theorem dX5_wordNumber_50 : decode cX5_wordNumber 50 = .ok (.ifCond .eq 5, 3) := by decide +kernel
theorem dX5_wordNumber_53 : decode cX5_wordNumber 53 = .ok (.iconst 4, 1) := by decide +kernel
theorem dX5_wordNumber_54 : decode cX5_wordNumber 54 = .ok (.ireturn, 1) := by decide +kernel
theorem dX5_wordNumber_55 : decode cX5_wordNumber 55 = .ok (.aload_n 0, 1) := by decide +kernel
theorem dX5_wordNumber_56 : decode cX5_wordNumber 56 = .ok (.ldc 131, 2) := by decide +kernel
theorem dX5_wordNumber_58 : decode cX5_wordNumber 58 = .ok (.invokevirtual 119, 3) := by decide +kernel
theorem dX5_wordNumber_61 : decode cX5_wordNumber 61 = .ok (.ifCond .eq 7, 3) := by decide +kernel
theorem dX5_wordNumber_64 : decode cX5_wordNumber 64 = .ok (.iconst 5, 1) := by decide +kernel
theorem dX5_wordNumber_65 : decode cX5_wordNumber 65 = .ok (.goto 4, 3) := by decide +kernel
theorem dX5_wordNumber_68 : decode cX5_wordNumber 68 = .ok (.iconst (-1), 1) := by decide +kernel
theorem dX5_wordNumber_69 : decode cX5_wordNumber 69 = .ok (.ireturn, 1) := by decide +kernel
theorem dX5_isWord_0 : decode cX5_isWord 0 = .ok (.aload_n 0, 1) := by decide +kernel
theorem dX5_isWord_1 : decode cX5_isWord 1 = .ok (.getfield 22, 3) := by decide +kernel
theorem dX5_isWord_4 : decode cX5_isWord 4 = .ok (.aload_n 0, 1) := by decide +kernel
theorem dX5_isWord_5 : decode cX5_isWord 5 = .ok (.getfield 44, 3) := by decide +kernel
theorem dX5_isWord_8 : decode cX5_isWord 8 = .ok (.isub, 1) := by decide +kernel
theorem dX5_isWord_9 : decode cX5_isWord 9 = .ok (.aload_n 1, 1) := by decide +kernel
theorem dX5_isWord_10 : decode cX5_isWord 10 = .ok (.invokevirtual 133, 3) := by decide +kernel
theorem dX5_isWord_13 : decode cX5_isWord 13 = .ok (.if_icmp .eq 5, 3) := by decide +kernel
theorem dX5_isWord_16 : decode cX5_isWord 16 = .ok (.iconst 0, 1) := by decide +kernel
theorem dX5_isWord_17 : decode cX5_isWord 17 = .ok (.ireturn, 1) := by decide +kernel
theorem dX5_isWord_18 : decode cX5_isWord 18 = .ok (.iconst 0, 1) := by decide +kernel
theorem dX5_isWord_19 : decode cX5_isWord 19 = .ok (.istore_n 2, 1) := by decide +kernel
theorem dX5_isWord_20 : decode cX5_isWord 20 = .ok (.iload_n 2, 1) := by decide +kernel
theorem dX5_isWord_21 : decode cX5_isWord 21 = .ok (.aload_n 1, 1) := by decide +kernel
theorem dX5_isWord_22 : decode cX5_isWord 22 = .ok (.invokevirtual 133, 3) := by decide +kernel
theorem dX5_isWord_25 : decode cX5_isWord 25 = .ok (.if_icmp .ge 29, 3) := by decide +kernel
theorem dX5_isWord_28 : decode cX5_isWord 28 = .ok (.aload_n 0, 1) := by decide +kernel
theorem dX5_isWord_29 : decode cX5_isWord 29 = .ok (.aload_n 0, 1) := by decide +kernel
theorem dX5_isWord_30 : decode cX5_isWord 30 = .ok (.getfield 44, 3) := by decide +kernel
theorem dX5_isWord_33 : decode cX5_isWord 33 = .ok (.iload_n 2, 1) := by decide +kernel
theorem dX5_isWord_34 : decode cX5_isWord 34 = .ok (.iadd, 1) := by decide +kernel
theorem dX5_isWord_35 : decode cX5_isWord 35 = .ok (.invokevirtual 98, 3) := by decide +kernel
theorem dX5_isWord_38 : decode cX5_isWord 38 = .ok (.aload_n 1, 1) := by decide +kernel
theorem dX5_isWord_39 : decode cX5_isWord 39 = .ok (.iload_n 2, 1) := by decide +kernel
theorem dX5_isWord_40 : decode cX5_isWord 40 = .ok (.invokevirtual 137, 3) := by decide +kernel
theorem dX5_isWord_43 : decode cX5_isWord 43 = .ok (.if_icmp .eq 5, 3) := by decide +kernel
theorem dX5_isWord_46 : decode cX5_isWord 46 = .ok (.iconst 0, 1) := by decide +kernel
theorem dX5_isWord_47 : decode cX5_isWord 47 = .ok (.ireturn, 1) := by decide +kernel
theorem dX5_isWord_48 : decode cX5_isWord 48 = .ok (.iinc 2 1, 3) := by decide +kernel
theorem dX5_isWord_51 : decode cX5_isWord 51 = .ok (.goto (-31), 3) := by decide +kernel
theorem dX5_isWord_54 : decode cX5_isWord 54 = .ok (.iconst 1, 1) := by decide +kernel
theorem dX5_isWord_55 : decode cX5_isWord 55 = .ok (.ireturn, 1) := by decide +kernel
theorem dX6_init_0 : decode cX6_init 0 = .ok (.aload_n 0, 1) := by decide +kernel
theorem dX6_init_1 : decode cX6_init 1 = .ok (.invokespecial 3, 3) := by decide +kernel
theorem dX6_init_4 : decode cX6_init 4 = .ok (.aload_n 0, 1) := by decide +kernel
theorem dX6_init_5 : decode cX6_init 5 = .ok (.bipush 30, 2) := by decide +kernel
theorem dX6_init_7 : decode cX6_init 7 = .ok (.newarray .int, 2) := by decide +kernel
theorem dX6_init_9 : decode cX6_init 9 = .ok (.putfield 9, 3) := by decide +kernel
theorem dX6_init_12 : decode cX6_init 12 = .ok (.return_, 1) := by decide +kernel
theorem dX6_add_0 : decode cX6_add 0 = .ok (.aload_n 0, 1) := by decide +kernel
theorem dX6_add_1 : decode cX6_add 1 = .ok (.getfield 15, 3) := by decide +kernel
theorem dX6_add_4 : decode cX6_add 4 = .ok (.bipush 6, 2) := by decide +kernel
theorem dX6_add_6 : decode cX6_add 6 = .ok (.if_icmp .ge 71, 3) := by decide +kernel
theorem dX6_add_9 : decode cX6_add 9 = .ok (.aload_n 0, 1) := by decide +kernel
theorem dX6_add_10 : decode cX6_add 10 = .ok (.getfield 15, 3) := by decide +kernel
theorem dX6_add_13 : decode cX6_add 13 = .ok (.iconst 5, 1) := by decide +kernel
theorem dX6_add_14 : decode cX6_add 14 = .ok (.imul, 1) := by decide +kernel
theorem dX6_add_15 : decode cX6_add 15 = .ok (.istore 6, 2) := by decide +kernel
theorem dX6_add_17 : decode cX6_add 17 = .ok (.aload_n 0, 1) := by decide +kernel
theorem dX6_add_18 : decode cX6_add 18 = .ok (.getfield 9, 3) := by decide +kernel
theorem dX6_add_21 : decode cX6_add 21 = .ok (.iload 6, 2) := by decide +kernel
theorem dX6_add_23 : decode cX6_add 23 = .ok (.iload_n 1, 1) := by decide +kernel
theorem dX6_add_24 : decode cX6_add 24 = .ok (.iastore, 1) := by decide +kernel
theorem dX6_add_25 : decode cX6_add 25 = .ok (.aload_n 0, 1) := by decide +kernel
theorem dX6_add_26 : decode cX6_add 26 = .ok (.getfield 9, 3) := by decide +kernel
theorem dX6_add_29 : decode cX6_add 29 = .ok (.iload 6, 2) := by decide +kernel
theorem dX6_add_31 : decode cX6_add 31 = .ok (.iconst 1, 1) := by decide +kernel
theorem dX6_add_32 : decode cX6_add 32 = .ok (.iadd, 1) := by decide +kernel
theorem dX6_add_33 : decode cX6_add 33 = .ok (.iload_n 2, 1) := by decide +kernel
theorem dX6_add_34 : decode cX6_add 34 = .ok (.iastore, 1) := by decide +kernel
theorem dX6_add_35 : decode cX6_add 35 = .ok (.aload_n 0, 1) := by decide +kernel
theorem dX6_add_36 : decode cX6_add 36 = .ok (.getfield 9, 3) := by decide +kernel
theorem dX6_add_39 : decode cX6_add 39 = .ok (.iload 6, 2) := by decide +kernel
theorem dX6_add_41 : decode cX6_add 41 = .ok (.iconst 2, 1) := by decide +kernel
theorem dX6_add_42 : decode cX6_add 42 = .ok (.iadd, 1) := by decide +kernel
theorem dX6_add_43 : decode cX6_add 43 = .ok (.iload_n 3, 1) := by decide +kernel
theorem dX6_add_44 : decode cX6_add 44 = .ok (.iastore, 1) := by decide +kernel
theorem dX6_add_45 : decode cX6_add 45 = .ok (.aload_n 0, 1) := by decide +kernel
theorem dX6_add_46 : decode cX6_add 46 = .ok (.getfield 9, 3) := by decide +kernel
theorem dX6_add_49 : decode cX6_add 49 = .ok (.iload 6, 2) := by decide +kernel
theorem dX6_add_51 : decode cX6_add 51 = .ok (.iconst 3, 1) := by decide +kernel
theorem dX6_add_52 : decode cX6_add 52 = .ok (.iadd, 1) := by decide +kernel
theorem dX6_add_53 : decode cX6_add 53 = .ok (.iload 4, 2) := by decide +kernel
theorem dX6_add_55 : decode cX6_add 55 = .ok (.iastore, 1) := by decide +kernel
theorem dX6_add_56 : decode cX6_add 56 = .ok (.aload_n 0, 1) := by decide +kernel
theorem dX6_add_57 : decode cX6_add 57 = .ok (.getfield 9, 3) := by decide +kernel
theorem dX6_add_60 : decode cX6_add 60 = .ok (.iload 6, 2) := by decide +kernel
theorem dX6_add_62 : decode cX6_add 62 = .ok (.iconst 4, 1) := by decide +kernel
theorem dX6_add_63 : decode cX6_add 63 = .ok (.iadd, 1) := by decide +kernel
theorem dX6_add_64 : decode cX6_add 64 = .ok (.iload 5, 2) := by decide +kernel
theorem dX6_add_66 : decode cX6_add 66 = .ok (.iastore, 1) := by decide +kernel
theorem dX6_add_67 : decode cX6_add 67 = .ok (.aload_n 0, 1) := by decide +kernel
theorem dX6_add_68 : decode cX6_add 68 = .ok (.dup, 1) := by decide +kernel
theorem dX6_add_69 : decode cX6_add 69 = .ok (.getfield 15, 3) := by decide +kernel
theorem dX6_add_72 : decode cX6_add 72 = .ok (.iconst 1, 1) := by decide +kernel
theorem dX6_add_73 : decode cX6_add 73 = .ok (.iadd, 1) := by decide +kernel
theorem dX6_add_74 : decode cX6_add 74 = .ok (.putfield 15, 3) := by decide +kernel
theorem dX6_add_77 : decode cX6_add 77 = .ok (.aload_n 0, 1) := by decide +kernel
theorem dX6_add_78 : decode cX6_add 78 = .ok (.getfield 15, 3) := by decide +kernel
theorem dX6_add_81 : decode cX6_add 81 = .ok (.ireturn, 1) := by decide +kernel
theorem dX6_told_0 : decode cX6_told 0 = .ok (.iload_n 1, 1) := by decide +kernel
theorem dX6_told_1 : decode cX6_told 1 = .ok (.iconst 5, 1) := by decide +kernel
theorem dX6_told_2 : decode cX6_told 2 = .ok (.imul, 1) := by decide +kernel
theorem dX6_told_3 : decode cX6_told 3 = .ok (.iload_n 2, 1) := by decide +kernel
theorem dX6_told_4 : decode cX6_told 4 = .ok (.iadd, 1) := by decide +kernel
theorem dX6_told_5 : decode cX6_told 5 = .ok (.istore_n 3, 1) := by decide +kernel
theorem dX6_told_6 : decode cX6_told 6 = .ok (.iload_n 3, 1) := by decide +kernel
theorem dX6_told_7 : decode cX6_told 7 = .ok (.ifCond .lt 21, 3) := by decide +kernel
theorem dX6_told_10 : decode cX6_told 10 = .ok (.iload_n 3, 1) := by decide +kernel
theorem dX6_told_11 : decode cX6_told 11 = .ok (.aload_n 0, 1) := by decide +kernel
theorem dX6_told_12 : decode cX6_told 12 = .ok (.getfield 9, 3) := by decide +kernel
theorem dX6_told_15 : decode cX6_told 15 = .ok (.arraylength, 1) := by decide +kernel
theorem dX6_told_16 : decode cX6_told 16 = .ok (.if_icmp .ge 12, 3) := by decide +kernel
theorem dX6_told_19 : decode cX6_told 19 = .ok (.aload_n 0, 1) := by decide +kernel
theorem dX6_told_20 : decode cX6_told 20 = .ok (.getfield 9, 3) := by decide +kernel
theorem dX6_told_23 : decode cX6_told 23 = .ok (.iload_n 3, 1) := by decide +kernel
theorem dX6_told_24 : decode cX6_told 24 = .ok (.iaload, 1) := by decide +kernel
theorem dX6_told_25 : decode cX6_told 25 = .ok (.goto 4, 3) := by decide +kernel
theorem dX6_told_28 : decode cX6_told 28 = .ok (.iconst 0, 1) := by decide +kernel
theorem dX6_told_29 : decode cX6_told 29 = .ok (.ireturn, 1) := by decide +kernel
theorem dX6_copyOf_0 : decode cX6_copyOf 0 = .ok (.aload_n 0, 1) := by decide +kernel
theorem dX6_copyOf_1 : decode cX6_copyOf 1 = .ok (.aload_n 1, 1) := by decide +kernel
theorem dX6_copyOf_2 : decode cX6_copyOf 2 = .ok (.getfield 15, 3) := by decide +kernel
theorem dX6_copyOf_5 : decode cX6_copyOf 5 = .ok (.putfield 15, 3) := by decide +kernel
theorem dX6_copyOf_8 : decode cX6_copyOf 8 = .ok (.iconst 0, 1) := by decide +kernel
theorem dX6_copyOf_9 : decode cX6_copyOf 9 = .ok (.istore_n 2, 1) := by decide +kernel
theorem dX6_copyOf_10 : decode cX6_copyOf 10 = .ok (.iload_n 2, 1) := by decide +kernel
theorem dX6_copyOf_11 : decode cX6_copyOf 11 = .ok (.aload_n 0, 1) := by decide +kernel
theorem dX6_copyOf_12 : decode cX6_copyOf 12 = .ok (.getfield 9, 3) := by decide +kernel
theorem dX6_copyOf_15 : decode cX6_copyOf 15 = .ok (.arraylength, 1) := by decide +kernel
theorem dX6_copyOf_16 : decode cX6_copyOf 16 = .ok (.if_icmp .ge 21, 3) := by decide +kernel
theorem dX6_copyOf_19 : decode cX6_copyOf 19 = .ok (.aload_n 0, 1) := by decide +kernel
theorem dX6_copyOf_20 : decode cX6_copyOf 20 = .ok (.getfield 9, 3) := by decide +kernel
theorem dX6_copyOf_23 : decode cX6_copyOf 23 = .ok (.iload_n 2, 1) := by decide +kernel
theorem dX6_copyOf_24 : decode cX6_copyOf 24 = .ok (.aload_n 1, 1) := by decide +kernel
theorem dX6_copyOf_25 : decode cX6_copyOf 25 = .ok (.getfield 9, 3) := by decide +kernel
theorem dX6_copyOf_28 : decode cX6_copyOf 28 = .ok (.iload_n 2, 1) := by decide +kernel
theorem dX6_copyOf_29 : decode cX6_copyOf 29 = .ok (.iaload, 1) := by decide +kernel
theorem dX6_copyOf_30 : decode cX6_copyOf 30 = .ok (.iastore, 1) := by decide +kernel
theorem dX6_copyOf_31 : decode cX6_copyOf 31 = .ok (.iinc 2 1, 3) := by decide +kernel
theorem dX6_copyOf_34 : decode cX6_copyOf 34 = .ok (.goto (-24), 3) := by decide +kernel
theorem dX6_copyOf_37 : decode cX6_copyOf 37 = .ok (.return_, 1) := by decide +kernel
theorem dX6_mixInto_0 : decode cX6_mixInto 0 = .ok (.lload_n 1, 1) := by decide +kernel
theorem dX6_mixInto_1 : decode cX6_mixInto 1 = .ok (.lstore 4, 2) := by decide +kernel
theorem dX6_mixInto_3 : decode cX6_mixInto 3 = .ok (.iconst 0, 1) := by decide +kernel
theorem dX6_mixInto_4 : decode cX6_mixInto 4 = .ok (.istore 6, 2) := by decide +kernel
theorem dX6_mixInto_6 : decode cX6_mixInto 6 = .ok (.iload 6, 2) := by decide +kernel
theorem dX6_mixInto_8 : decode cX6_mixInto 8 = .ok (.aload_n 0, 1) := by decide +kernel
theorem dX6_mixInto_9 : decode cX6_mixInto 9 = .ok (.getfield 15, 3) := by decide +kernel
theorem dX6_mixInto_12 : decode cX6_mixInto 12 = .ok (.if_icmp .ge 42, 3) := by decide +kernel
theorem dX6_mixInto_15 : decode cX6_mixInto 15 = .ok (.iconst 0, 1) := by decide +kernel
theorem dX6_mixInto_16 : decode cX6_mixInto 16 = .ok (.istore 7, 2) := by decide +kernel
theorem dX6_mixInto_18 : decode cX6_mixInto 18 = .ok (.iload 7, 2) := by decide +kernel
theorem dX6_mixInto_20 : decode cX6_mixInto 20 = .ok (.iload_n 3, 1) := by decide +kernel
theorem dX6_mixInto_21 : decode cX6_mixInto 21 = .ok (.if_icmp .ge 27, 3) := by decide +kernel
theorem dX6_mixInto_24 : decode cX6_mixInto 24 = .ok (.ldc2_w 19, 3) := by decide +kernel
theorem dX6_mixInto_27 : decode cX6_mixInto 27 = .ok (.lload 4, 2) := by decide +kernel
theorem dX6_mixInto_29 : decode cX6_mixInto 29 = .ok (.lmul, 1) := by decide +kernel
theorem dX6_mixInto_30 : decode cX6_mixInto 30 = .ok (.aload_n 0, 1) := by decide +kernel
theorem dX6_mixInto_31 : decode cX6_mixInto 31 = .ok (.iload 6, 2) := by decide +kernel
theorem dX6_mixInto_33 : decode cX6_mixInto 33 = .ok (.iload 7, 2) := by decide +kernel
theorem dX6_mixInto_35 : decode cX6_mixInto 35 = .ok (.invokevirtual 21, 3) := by decide +kernel
theorem dX6_mixInto_38 : decode cX6_mixInto 38 = .ok (.i2l, 1) := by decide +kernel
theorem dX6_mixInto_39 : decode cX6_mixInto 39 = .ok (.ladd, 1) := by decide +kernel
theorem dX6_mixInto_40 : decode cX6_mixInto 40 = .ok (.lstore 4, 2) := by decide +kernel
theorem dX6_mixInto_42 : decode cX6_mixInto 42 = .ok (.iinc 7 1, 3) := by decide +kernel
theorem dX6_mixInto_45 : decode cX6_mixInto 45 = .ok (.goto (-27), 3) := by decide +kernel
theorem dX6_mixInto_48 : decode cX6_mixInto 48 = .ok (.iinc 6 1, 3) := by decide +kernel
theorem dX6_mixInto_51 : decode cX6_mixInto 51 = .ok (.goto (-45), 3) := by decide +kernel
theorem dX6_mixInto_54 : decode cX6_mixInto 54 = .ok (.lload 4, 2) := by decide +kernel
theorem dX6_mixInto_56 : decode cX6_mixInto 56 = .ok (.lreturn, 1) := by decide +kernel
theorem dX7_init_0 : decode cX7_init 0 = .ok (.aload_n 0, 1) := by decide +kernel
theorem dX7_init_1 : decode cX7_init 1 = .ok (.invokespecial 3, 3) := by decide +kernel
theorem dX7_init_4 : decode cX7_init 4 = .ok (.aload_n 0, 1) := by decide +kernel
theorem dX7_init_5 : decode cX7_init 5 = .ok (.bipush 6, 2) := by decide +kernel
theorem dX7_init_7 : decode cX7_init 7 = .ok (.newarray .int, 2) := by decide +kernel
theorem dX7_init_9 : decode cX7_init 9 = .ok (.putfield 9, 3) := by decide +kernel
theorem dX7_init_12 : decode cX7_init 12 = .ok (.return_, 1) := by decide +kernel
theorem dX7_gauge_0 : decode cX7_gauge 0 = .ok (.iconst 0, 1) := by decide +kernel
theorem dX7_gauge_1 : decode cX7_gauge 1 = .ok (.istore 4, 2) := by decide +kernel
theorem dX7_gauge_3 : decode cX7_gauge 3 = .ok (.iload 4, 2) := by decide +kernel
theorem dX7_gauge_5 : decode cX7_gauge 5 = .ok (.aload_n 1, 1) := by decide +kernel
theorem dX7_gauge_6 : decode cX7_gauge 6 = .ok (.getfield 15, 3) := by decide +kernel
theorem dX7_gauge_9 : decode cX7_gauge 9 = .ok (.if_icmp .ge 29, 3) := by decide +kernel
theorem dX7_gauge_12 : decode cX7_gauge 12 = .ok (.aload_n 0, 1) := by decide +kernel
theorem dX7_gauge_13 : decode cX7_gauge 13 = .ok (.getfield 9, 3) := by decide +kernel
theorem dX7_gauge_16 : decode cX7_gauge 16 = .ok (.iload 4, 2) := by decide +kernel
theorem dX7_gauge_18 : decode cX7_gauge 18 = .ok (.aload_n 1, 1) := by decide +kernel
theorem dX7_gauge_19 : decode cX7_gauge 19 = .ok (.iload_n 2, 1) := by decide +kernel
theorem dX7_gauge_20 : decode cX7_gauge 20 = .ok (.aload_n 1, 1) := by decide +kernel
theorem dX7_gauge_21 : decode cX7_gauge 21 = .ok (.getfield 21, 3) := by decide +kernel
theorem dX7_gauge_24 : decode cX7_gauge 24 = .ok (.iload 4, 2) := by decide +kernel
theorem dX7_gauge_26 : decode cX7_gauge 26 = .ok (.iaload, 1) := by decide +kernel
theorem dX7_gauge_27 : decode cX7_gauge 27 = .ok (.iload_n 3, 1) := by decide +kernel
theorem dX7_gauge_28 : decode cX7_gauge 28 = .ok (.invokevirtual 24, 3) := by decide +kernel
theorem dX7_gauge_31 : decode cX7_gauge 31 = .ok (.iastore, 1) := by decide +kernel
theorem dX7_gauge_32 : decode cX7_gauge 32 = .ok (.iinc 4 1, 3) := by decide +kernel
theorem dX7_gauge_35 : decode cX7_gauge 35 = .ok (.goto (-32), 3) := by decide +kernel
theorem dX7_gauge_38 : decode cX7_gauge 38 = .ok (.return_, 1) := by decide +kernel
theorem dX7_witnesses_0 : decode cX7_witnesses 0 = .ok (.iconst 0, 1) := by decide +kernel
theorem dX7_witnesses_1 : decode cX7_witnesses 1 = .ok (.istore_n 3, 1) := by decide +kernel
theorem dX7_witnesses_2 : decode cX7_witnesses 2 = .ok (.iconst 0, 1) := by decide +kernel
theorem dX7_witnesses_3 : decode cX7_witnesses 3 = .ok (.istore 4, 2) := by decide +kernel
theorem dX7_witnesses_5 : decode cX7_witnesses 5 = .ok (.iload 4, 2) := by decide +kernel
theorem dX7_witnesses_7 : decode cX7_witnesses 7 = .ok (.aload_n 1, 1) := by decide +kernel
theorem dX7_witnesses_8 : decode cX7_witnesses 8 = .ok (.getfield 15, 3) := by decide +kernel
theorem dX7_witnesses_11 : decode cX7_witnesses 11 = .ok (.if_icmp .ge 47, 3) := by decide +kernel
theorem dX7_witnesses_14 : decode cX7_witnesses 14 = .ok (.aload_n 1, 1) := by decide +kernel
theorem dX7_witnesses_15 : decode cX7_witnesses 15 = .ok (.getfield 28, 3) := by decide +kernel
theorem dX7_witnesses_18 : decode cX7_witnesses 18 = .ok (.iload 4, 2) := by decide +kernel
theorem dX7_witnesses_20 : decode cX7_witnesses 20 = .ok (.iaload, 1) := by decide +kernel
theorem dX7_witnesses_21 : decode cX7_witnesses 21 = .ok (.aload_n 1, 1) := by decide +kernel
theorem dX7_witnesses_22 : decode cX7_witnesses 22 = .ok (.getfield 21, 3) := by decide +kernel
theorem dX7_witnesses_25 : decode cX7_witnesses 25 = .ok (.iload 4, 2) := by decide +kernel
theorem dX7_witnesses_27 : decode cX7_witnesses 27 = .ok (.iaload, 1) := by decide +kernel
theorem dX7_witnesses_28 : decode cX7_witnesses 28 = .ok (.iload_n 2, 1) := by decide +kernel
theorem dX7_witnesses_29 : decode cX7_witnesses 29 = .ok (.invokestatic 31, 3) := by decide +kernel
theorem dX7_witnesses_32 : decode cX7_witnesses 32 = .ok (.aload_n 0, 1) := by decide +kernel
theorem dX7_witnesses_33 : decode cX7_witnesses 33 = .ok (.getfield 9, 3) := by decide +kernel
theorem dX7_witnesses_36 : decode cX7_witnesses 36 = .ok (.iload 4, 2) := by decide +kernel
theorem dX7_witnesses_38 : decode cX7_witnesses 38 = .ok (.iaload, 1) := by decide +kernel
theorem dX7_witnesses_39 : decode cX7_witnesses 39 = .ok (.invokestatic 35, 3) := by decide +kernel
theorem dX7_witnesses_42 : decode cX7_witnesses 42 = .ok (.ifCond .eq 10, 3) := by decide +kernel
theorem dX7_witnesses_45 : decode cX7_witnesses 45 = .ok (.iload_n 3, 1) := by decide +kernel
theorem dX7_witnesses_46 : decode cX7_witnesses 46 = .ok (.iconst 1, 1) := by decide +kernel
theorem dX7_witnesses_47 : decode cX7_witnesses 47 = .ok (.iload 4, 2) := by decide +kernel
theorem dX7_witnesses_49 : decode cX7_witnesses 49 = .ok (.ishl, 1) := by decide +kernel
theorem dX7_witnesses_50 : decode cX7_witnesses 50 = .ok (.ior, 1) := by decide +kernel
theorem dX7_witnesses_51 : decode cX7_witnesses 51 = .ok (.istore_n 3, 1) := by decide +kernel
theorem dX7_witnesses_52 : decode cX7_witnesses 52 = .ok (.iinc 4 1, 3) := by decide +kernel
theorem dX7_witnesses_55 : decode cX7_witnesses 55 = .ok (.goto (-50), 3) := by decide +kernel
theorem dX7_witnesses_58 : decode cX7_witnesses 58 = .ok (.iload_n 3, 1) := by decide +kernel
theorem dX7_witnesses_59 : decode cX7_witnesses 59 = .ok (.ireturn, 1) := by decide +kernel
theorem dX7_whoSees_0 : decode cX7_whoSees 0 = .ok (.aload_n 0, 1) := by decide +kernel
theorem dX7_whoSees_1 : decode cX7_whoSees 1 = .ok (.aload_n 1, 1) := by decide +kernel
theorem dX7_whoSees_2 : decode cX7_whoSees 2 = .ok (.aload_n 1, 1) := by decide +kernel
theorem dX7_whoSees_3 : decode cX7_whoSees 3 = .ok (.invokevirtual 41, 3) := by decide +kernel
theorem dX7_whoSees_6 : decode cX7_whoSees 6 = .ok (.iload_n 3, 1) := by decide +kernel
theorem dX7_whoSees_7 : decode cX7_whoSees 7 = .ok (.invokevirtual 45, 3) := by decide +kernel
theorem dX7_whoSees_10 : decode cX7_whoSees 10 = .ok (.aload_n 0, 1) := by decide +kernel
theorem dX7_whoSees_11 : decode cX7_whoSees 11 = .ok (.aload_n 1, 1) := by decide +kernel
theorem dX7_whoSees_12 : decode cX7_whoSees 12 = .ok (.iload_n 2, 1) := by decide +kernel
theorem dX7_whoSees_13 : decode cX7_whoSees 13 = .ok (.invokevirtual 49, 3) := by decide +kernel
theorem dX7_whoSees_16 : decode cX7_whoSees 16 = .ok (.ireturn, 1) := by decide +kernel
theorem dX7_whoSeesWithShowAt_0 : decode cX7_whoSeesWithShowAt 0 = .ok (.aload_n 1, 1) := by decide +kernel
theorem dX7_whoSeesWithShowAt_1 : decode cX7_whoSeesWithShowAt 1 = .ok (.iconst 0, 1) := by decide +kernel
theorem dX7_whoSeesWithShowAt_2 : decode cX7_whoSeesWithShowAt 2 = .ok (.invokevirtual 53, 3) := by decide +kernel
theorem dX7_whoSeesWithShowAt_5 : decode cX7_whoSeesWithShowAt 5 = .ok (.istore 5, 2) := by decide +kernel
theorem dX7_whoSeesWithShowAt_7 : decode cX7_whoSeesWithShowAt 7 = .ok (.aload_n 0, 1) := by decide +kernel
theorem dX7_whoSeesWithShowAt_8 : decode cX7_whoSeesWithShowAt 8 = .ok (.aload_n 1, 1) := by decide +kernel
theorem dX7_whoSeesWithShowAt_9 : decode cX7_whoSeesWithShowAt 9 = .ok (.aload_n 1, 1) := by decide +kernel
theorem dX7_whoSeesWithShowAt_10 : decode cX7_whoSeesWithShowAt 10 = .ok (.invokevirtual 41, 3) := by decide +kernel
theorem dX7_whoSeesWithShowAt_13 : decode cX7_whoSeesWithShowAt 13 = .ok (.iconst 1, 1) := by decide +kernel
theorem dX7_whoSeesWithShowAt_14 : decode cX7_whoSeesWithShowAt 14 = .ok (.iload_n 3, 1) := by decide +kernel
theorem dX7_whoSeesWithShowAt_15 : decode cX7_whoSeesWithShowAt 15 = .ok (.ishl, 1) := by decide +kernel
theorem dX7_whoSeesWithShowAt_16 : decode cX7_whoSeesWithShowAt 16 = .ok (.iconst (-1), 1) := by decide +kernel
theorem dX7_whoSeesWithShowAt_17 : decode cX7_whoSeesWithShowAt 17 = .ok (.ixor, 1) := by decide +kernel
theorem dX7_whoSeesWithShowAt_18 : decode cX7_whoSeesWithShowAt 18 = .ok (.iand, 1) := by decide +kernel
theorem dX7_whoSeesWithShowAt_19 : decode cX7_whoSeesWithShowAt 19 = .ok (.iload 5, 2) := by decide +kernel
theorem dX7_whoSeesWithShowAt_21 : decode cX7_whoSeesWithShowAt 21 = .ok (.invokevirtual 45, 3) := by decide +kernel
theorem dX7_whoSeesWithShowAt_24 : decode cX7_whoSeesWithShowAt 24 = .ok (.iconst 0, 1) := by decide +kernel
theorem dX7_whoSeesWithShowAt_25 : decode cX7_whoSeesWithShowAt 25 = .ok (.istore 6, 2) := by decide +kernel
theorem dX7_whoSeesWithShowAt_27 : decode cX7_whoSeesWithShowAt 27 = .ok (.iload 6, 2) := by decide +kernel
theorem dX7_whoSeesWithShowAt_29 : decode cX7_whoSeesWithShowAt 29 = .ok (.aload_n 1, 1) := by decide +kernel
theorem dX7_whoSeesWithShowAt_30 : decode cX7_whoSeesWithShowAt 30 = .ok (.getfield 15, 3) := by decide +kernel
theorem dX7_whoSeesWithShowAt_33 : decode cX7_whoSeesWithShowAt 33 = .ok (.if_icmp .ge 63, 3) := by decide +kernel
theorem dX7_whoSeesWithShowAt_36 : decode cX7_whoSeesWithShowAt 36 = .ok (.iload 4, 2) := by decide +kernel
theorem dX7_whoSeesWithShowAt_38 : decode cX7_whoSeesWithShowAt 38 = .ok (.aload_n 1, 1) := by decide +kernel
theorem dX7_whoSeesWithShowAt_39 : decode cX7_whoSeesWithShowAt 39 = .ok (.getfield 21, 3) := by decide +kernel
theorem dX7_whoSeesWithShowAt_42 : decode cX7_whoSeesWithShowAt 42 = .ok (.iload 6, 2) := by decide +kernel
theorem dX7_whoSeesWithShowAt_44 : decode cX7_whoSeesWithShowAt 44 = .ok (.iaload, 1) := by decide +kernel
theorem dX7_whoSeesWithShowAt_45 : decode cX7_whoSeesWithShowAt 45 = .ok (.invokestatic 31, 3) := by decide +kernel
theorem dX7_whoSeesWithShowAt_48 : decode cX7_whoSeesWithShowAt 48 = .ok (.istore 7, 2) := by decide +kernel
theorem dX7_whoSeesWithShowAt_50 : decode cX7_whoSeesWithShowAt 50 = .ok (.aload_n 1, 1) := by decide +kernel
theorem dX7_whoSeesWithShowAt_51 : decode cX7_whoSeesWithShowAt 51 = .ok (.getfield 57, 3) := by decide +kernel
theorem dX7_whoSeesWithShowAt_54 : decode cX7_whoSeesWithShowAt 54 = .ok (.iload_n 3, 1) := by decide +kernel
theorem dX7_whoSeesWithShowAt_55 : decode cX7_whoSeesWithShowAt 55 = .ok (.iaload, 1) := by decide +kernel
theorem dX7_whoSeesWithShowAt_56 : decode cX7_whoSeesWithShowAt 56 = .ok (.aload_n 1, 1) := by decide +kernel
theorem dX7_whoSeesWithShowAt_57 : decode cX7_whoSeesWithShowAt 57 = .ok (.getfield 60, 3) := by decide +kernel
theorem dX7_whoSeesWithShowAt_60 : decode cX7_whoSeesWithShowAt 60 = .ok (.iload_n 3, 1) := by decide +kernel
theorem dX7_whoSeesWithShowAt_61 : decode cX7_whoSeesWithShowAt 61 = .ok (.iaload, 1) := by decide +kernel
theorem dX7_whoSeesWithShowAt_62 : decode cX7_whoSeesWithShowAt 62 = .ok (.iload 7, 2) := by decide +kernel
theorem dX7_whoSeesWithShowAt_64 : decode cX7_whoSeesWithShowAt 64 = .ok (.iload 5, 2) := by decide +kernel
theorem dX7_whoSeesWithShowAt_66 : decode cX7_whoSeesWithShowAt 66 = .ok (.invokestatic 63, 3) := by decide +kernel
theorem dX7_whoSeesWithShowAt_69 : decode cX7_whoSeesWithShowAt 69 = .ok (.istore 8, 2) := by decide +kernel
theorem dX7_whoSeesWithShowAt_71 : decode cX7_whoSeesWithShowAt 71 = .ok (.aload_n 0, 1) := by decide +kernel
theorem dX7_whoSeesWithShowAt_72 : decode cX7_whoSeesWithShowAt 72 = .ok (.getfield 9, 3) := by decide +kernel
theorem dX7_whoSeesWithShowAt_75 : decode cX7_whoSeesWithShowAt 75 = .ok (.iload 6, 2) := by decide +kernel
theorem dX7_whoSeesWithShowAt_77 : decode cX7_whoSeesWithShowAt 77 = .ok (.aload_n 0, 1) := by decide +kernel
theorem dX7_whoSeesWithShowAt_78 : decode cX7_whoSeesWithShowAt 78 = .ok (.getfield 9, 3) := by decide +kernel
theorem dX7_whoSeesWithShowAt_81 : decode cX7_whoSeesWithShowAt 81 = .ok (.iload 6, 2) := by decide +kernel
theorem dX7_whoSeesWithShowAt_83 : decode cX7_whoSeesWithShowAt 83 = .ok (.iaload, 1) := by decide +kernel
theorem dX7_whoSeesWithShowAt_84 : decode cX7_whoSeesWithShowAt 84 = .ok (.iload 8, 2) := by decide +kernel
theorem dX7_whoSeesWithShowAt_86 : decode cX7_whoSeesWithShowAt 86 = .ok (.invokestatic 67, 3) := by decide +kernel
theorem dX7_whoSeesWithShowAt_89 : decode cX7_whoSeesWithShowAt 89 = .ok (.iastore, 1) := by decide +kernel
theorem dX7_whoSeesWithShowAt_90 : decode cX7_whoSeesWithShowAt 90 = .ok (.iinc 6 1, 3) := by decide +kernel
theorem dX7_whoSeesWithShowAt_93 : decode cX7_whoSeesWithShowAt 93 = .ok (.goto (-66), 3) := by decide +kernel
theorem dX7_whoSeesWithShowAt_96 : decode cX7_whoSeesWithShowAt 96 = .ok (.aload_n 0, 1) := by decide +kernel
theorem dX7_whoSeesWithShowAt_97 : decode cX7_whoSeesWithShowAt 97 = .ok (.aload_n 1, 1) := by decide +kernel
theorem dX7_whoSeesWithShowAt_98 : decode cX7_whoSeesWithShowAt 98 = .ok (.iload_n 2, 1) := by decide +kernel
theorem dX7_whoSeesWithShowAt_99 : decode cX7_whoSeesWithShowAt 99 = .ok (.invokevirtual 49, 3) := by decide +kernel
theorem dX7_whoSeesWithShowAt_102 : decode cX7_whoSeesWithShowAt 102 = .ok (.ireturn, 1) := by decide +kernel
theorem dX7_openSteps_0 : decode cX7_openSteps 0 = .ok (.iconst 0, 1) := by decide +kernel
theorem dX7_openSteps_1 : decode cX7_openSteps 1 = .ok (.istore_n 3, 1) := by decide +kernel
theorem dX7_openSteps_2 : decode cX7_openSteps 2 = .ok (.iconst 0, 1) := by decide +kernel
theorem dX7_openSteps_3 : decode cX7_openSteps 3 = .ok (.istore 4, 2) := by decide +kernel
theorem dX7_openSteps_5 : decode cX7_openSteps 5 = .ok (.iload 4, 2) := by decide +kernel
theorem dX7_openSteps_7 : decode cX7_openSteps 7 = .ok (.bipush 24, 2) := by decide +kernel
theorem dX7_openSteps_9 : decode cX7_openSteps 9 = .ok (.if_icmp .ge 31, 3) := by decide +kernel
theorem dX7_openSteps_12 : decode cX7_openSteps 12 = .ok (.aload_n 0, 1) := by decide +kernel
theorem dX7_openSteps_13 : decode cX7_openSteps 13 = .ok (.aload_n 1, 1) := by decide +kernel
theorem dX7_openSteps_14 : decode cX7_openSteps 14 = .ok (.iload_n 2, 1) := by decide +kernel
theorem dX7_openSteps_15 : decode cX7_openSteps 15 = .ok (.aload_n 1, 1) := by decide +kernel
theorem dX7_openSteps_16 : decode cX7_openSteps 16 = .ok (.iload 4, 2) := by decide +kernel
theorem dX7_openSteps_18 : decode cX7_openSteps 18 = .ok (.invokevirtual 53, 3) := by decide +kernel
theorem dX7_openSteps_21 : decode cX7_openSteps 21 = .ok (.invokevirtual 72, 3) := by decide +kernel
theorem dX7_openSteps_24 : decode cX7_openSteps 24 = .ok (.ifCond .ne 10, 3) := by decide +kernel
theorem dX7_openSteps_27 : decode cX7_openSteps 27 = .ok (.iload_n 3, 1) := by decide +kernel
theorem dX7_openSteps_28 : decode cX7_openSteps 28 = .ok (.iconst 1, 1) := by decide +kernel
theorem dX7_openSteps_29 : decode cX7_openSteps 29 = .ok (.iload 4, 2) := by decide +kernel
theorem dX7_openSteps_31 : decode cX7_openSteps 31 = .ok (.ishl, 1) := by decide +kernel
theorem dX7_openSteps_32 : decode cX7_openSteps 32 = .ok (.ior, 1) := by decide +kernel
theorem dX7_openSteps_33 : decode cX7_openSteps 33 = .ok (.istore_n 3, 1) := by decide +kernel
theorem dX7_openSteps_34 : decode cX7_openSteps 34 = .ok (.iinc 4 1, 3) := by decide +kernel
theorem dX7_openSteps_37 : decode cX7_openSteps 37 = .ok (.goto (-32), 3) := by decide +kernel
theorem dX7_openSteps_40 : decode cX7_openSteps 40 = .ok (.iload_n 3, 1) := by decide +kernel
theorem dX7_openSteps_41 : decode cX7_openSteps 41 = .ok (.ireturn, 1) := by decide +kernel
theorem dX7_doingIn_0 : decode cX7_doingIn 0 = .ok (.aload_n 0, 1) := by decide +kernel
theorem dX7_doingIn_1 : decode cX7_doingIn 1 = .ok (.aload_n 1, 1) := by decide +kernel
theorem dX7_doingIn_2 : decode cX7_doingIn 2 = .ok (.aload_n 1, 1) := by decide +kernel
theorem dX7_doingIn_3 : decode cX7_doingIn 3 = .ok (.invokevirtual 41, 3) := by decide +kernel
theorem dX7_doingIn_6 : decode cX7_doingIn 6 = .ok (.aload_n 1, 1) := by decide +kernel
theorem dX7_doingIn_7 : decode cX7_doingIn 7 = .ok (.iconst 0, 1) := by decide +kernel
theorem dX7_doingIn_8 : decode cX7_doingIn 8 = .ok (.invokevirtual 53, 3) := by decide +kernel
theorem dX7_doingIn_11 : decode cX7_doingIn 11 = .ok (.invokevirtual 45, 3) := by decide +kernel
theorem dX7_doingIn_14 : decode cX7_doingIn 14 = .ok (.aload_n 0, 1) := by decide +kernel
theorem dX7_doingIn_15 : decode cX7_doingIn 15 = .ok (.aload_n 1, 1) := by decide +kernel
theorem dX7_doingIn_16 : decode cX7_doingIn 16 = .ok (.iload_n 2, 1) := by decide +kernel
theorem dX7_doingIn_17 : decode cX7_doingIn 17 = .ok (.invokevirtual 49, 3) := by decide +kernel
theorem dX7_doingIn_20 : decode cX7_doingIn 20 = .ok (.istore_n 3, 1) := by decide +kernel
theorem dX7_doingIn_21 : decode cX7_doingIn 21 = .ok (.iconst 0, 1) := by decide +kernel
theorem dX7_doingIn_22 : decode cX7_doingIn 22 = .ok (.istore 4, 2) := by decide +kernel
theorem dX7_doingIn_24 : decode cX7_doingIn 24 = .ok (.iload 4, 2) := by decide +kernel
theorem dX7_doingIn_26 : decode cX7_doingIn 26 = .ok (.aload_n 1, 1) := by decide +kernel
theorem dX7_doingIn_27 : decode cX7_doingIn 27 = .ok (.getfield 15, 3) := by decide +kernel
theorem dX7_doingIn_30 : decode cX7_doingIn 30 = .ok (.if_icmp .ge 25, 3) := by decide +kernel
theorem dX7_doingIn_33 : decode cX7_doingIn 33 = .ok (.aload_n 1, 1) := by decide +kernel
theorem dX7_doingIn_34 : decode cX7_doingIn 34 = .ok (.getfield 76, 3) := by decide +kernel
theorem dX7_doingIn_37 : decode cX7_doingIn 37 = .ok (.iload 4, 2) := by decide +kernel
theorem dX7_doingIn_39 : decode cX7_doingIn 39 = .ok (.dup2, 1) := by decide +kernel
theorem dX7_doingIn_40 : decode cX7_doingIn 40 = .ok (.iaload, 1) := by decide +kernel
theorem dX7_doingIn_41 : decode cX7_doingIn 41 = .ok (.iload_n 3, 1) := by decide +kernel
theorem dX7_doingIn_42 : decode cX7_doingIn 42 = .ok (.iload 4, 2) := by decide +kernel
theorem dX7_doingIn_44 : decode cX7_doingIn 44 = .ok (.ishr, 1) := by decide +kernel
theorem dX7_doingIn_45 : decode cX7_doingIn 45 = .ok (.iconst 1, 1) := by decide +kernel
theorem dX7_doingIn_46 : decode cX7_doingIn 46 = .ok (.iand, 1) := by decide +kernel
theorem dX7_doingIn_47 : decode cX7_doingIn 47 = .ok (.iadd, 1) := by decide +kernel
theorem dX7_doingIn_48 : decode cX7_doingIn 48 = .ok (.iastore, 1) := by decide +kernel
theorem dX7_doingIn_49 : decode cX7_doingIn 49 = .ok (.iinc 4 1, 3) := by decide +kernel
theorem dX7_doingIn_52 : decode cX7_doingIn 52 = .ok (.goto (-28), 3) := by decide +kernel
theorem dX7_doingIn_55 : decode cX7_doingIn 55 = .ok (.aload_n 1, 1) := by decide +kernel
theorem dX7_doingIn_56 : decode cX7_doingIn 56 = .ok (.dup, 1) := by decide +kernel
theorem dX7_doingIn_57 : decode cX7_doingIn 57 = .ok (.getfield 79, 3) := by decide +kernel
theorem dX7_doingIn_60 : decode cX7_doingIn 60 = .ok (.iconst 1, 1) := by decide +kernel
theorem dX7_doingIn_61 : decode cX7_doingIn 61 = .ok (.iadd, 1) := by decide +kernel
theorem dX7_doingIn_62 : decode cX7_doingIn 62 = .ok (.putfield 79, 3) := by decide +kernel
theorem dX7_doingIn_65 : decode cX7_doingIn 65 = .ok (.aload_n 1, 1) := by decide +kernel
theorem dX7_doingIn_66 : decode cX7_doingIn 66 = .ok (.iconst 1, 1) := by decide +kernel
theorem dX7_doingIn_67 : decode cX7_doingIn 67 = .ok (.invokevirtual 82, 3) := by decide +kernel
theorem dX7_doingIn_70 : decode cX7_doingIn 70 = .ok (.iload_n 3, 1) := by decide +kernel
theorem dX7_doingIn_71 : decode cX7_doingIn 71 = .ok (.ireturn, 1) := by decide +kernel
theorem dJ0_length_8abf5_0 : decode cJ0_length_8abf5 0 = .ok (.aload_n 0, 1) := by decide +kernel
theorem dJ0_length_8abf5_1 : decode cJ0_length_8abf5 1 = .ok (.getfield 9, 3) := by decide +kernel
theorem dJ0_length_8abf5_4 : decode cJ0_length_8abf5 4 = .ok (.arraylength, 1) := by decide +kernel
theorem dJ0_length_8abf5_5 : decode cJ0_length_8abf5 5 = .ok (.aload_n 0, 1) := by decide +kernel
theorem dJ0_length_8abf5_6 : decode cJ0_length_8abf5 6 = .ok (.invokevirtual 335, 3) := by decide +kernel
theorem dJ0_length_8abf5_9 : decode cJ0_length_8abf5 9 = .ok (.ishr, 1) := by decide +kernel
theorem dJ0_length_8abf5_10 : decode cJ0_length_8abf5 10 = .ok (.ireturn, 1) := by decide +kernel
theorem dJ0_charAt_5068e_0 : decode cJ0_charAt_5068e 0 = .ok (.aload_n 0, 1) := by decide +kernel
theorem dJ0_charAt_5068e_1 : decode cJ0_charAt_5068e 1 = .ok (.invokevirtual 492, 3) := by decide +kernel
theorem dJ0_charAt_5068e_4 : decode cJ0_charAt_5068e 4 = .ok (.ifCond .eq 12, 3) := by decide +kernel
theorem dJ0_charAt_5068e_7 : decode cJ0_charAt_5068e 7 = .ok (.aload_n 0, 1) := by decide +kernel
theorem dJ0_charAt_5068e_8 : decode cJ0_charAt_5068e 8 = .ok (.getfield 9, 3) := by decide +kernel
theorem dJ0_charAt_5068e_11 : decode cJ0_charAt_5068e 11 = .ok (.iload_n 1, 1) := by decide +kernel
theorem dJ0_charAt_5068e_12 : decode cJ0_charAt_5068e 12 = .ok (.invokestatic 495, 3) := by decide +kernel
theorem dJ0_charAt_5068e_15 : decode cJ0_charAt_5068e 15 = .ok (.ireturn, 1) := by decide +kernel
theorem dJ0_charAt_5068e_16 : decode cJ0_charAt_5068e 16 = .ok (.aload_n 0, 1) := by decide +kernel
theorem dJ0_charAt_5068e_17 : decode cJ0_charAt_5068e 17 = .ok (.getfield 9, 3) := by decide +kernel
theorem dJ0_charAt_5068e_20 : decode cJ0_charAt_5068e 20 = .ok (.iload_n 1, 1) := by decide +kernel
theorem dJ0_charAt_5068e_21 : decode cJ0_charAt_5068e 21 = .ok (.invokestatic 498, 3) := by decide +kernel
theorem dJ0_charAt_5068e_24 : decode cJ0_charAt_5068e 24 = .ok (.ireturn, 1) := by decide +kernel
theorem dJ0_coder_7d493_0 : decode cJ0_coder_7d493 0 = .ok (.getstatic 38, 3) := by decide +kernel
theorem dJ0_coder_7d493_3 : decode cJ0_coder_7d493 3 = .ok (.ifCond .eq 10, 3) := by decide +kernel
theorem dJ0_coder_7d493_6 : decode cJ0_coder_7d493 6 = .ok (.aload_n 0, 1) := by decide +kernel
theorem dJ0_coder_7d493_7 : decode cJ0_coder_7d493 7 = .ok (.getfield 15, 3) := by decide +kernel
theorem dJ0_coder_7d493_10 : decode cJ0_coder_7d493 10 = .ok (.goto 4, 3) := by decide +kernel
theorem dJ0_coder_7d493_13 : decode cJ0_coder_7d493 13 = .ok (.iconst 1, 1) := by decide +kernel
theorem dJ0_coder_7d493_14 : decode cJ0_coder_7d493 14 = .ok (.ireturn, 1) := by decide +kernel
theorem dJ0_isLatin1_aae02_0 : decode cJ0_isLatin1_aae02 0 = .ok (.getstatic 38, 3) := by decide +kernel
theorem dJ0_isLatin1_aae02_3 : decode cJ0_isLatin1_aae02 3 = .ok (.ifCond .eq 14, 3) := by decide +kernel
theorem dJ0_isLatin1_aae02_6 : decode cJ0_isLatin1_aae02 6 = .ok (.aload_n 0, 1) := by decide +kernel
theorem dJ0_isLatin1_aae02_7 : decode cJ0_isLatin1_aae02 7 = .ok (.getfield 15, 3) := by decide +kernel
theorem dJ0_isLatin1_aae02_10 : decode cJ0_isLatin1_aae02 10 = .ok (.ifCond .ne 7, 3) := by decide +kernel
theorem dJ0_isLatin1_aae02_13 : decode cJ0_isLatin1_aae02 13 = .ok (.iconst 1, 1) := by decide +kernel
theorem dJ0_isLatin1_aae02_14 : decode cJ0_isLatin1_aae02 14 = .ok (.goto 4, 3) := by decide +kernel
theorem dJ0_isLatin1_aae02_17 : decode cJ0_isLatin1_aae02 17 = .ok (.iconst 0, 1) := by decide +kernel
theorem dJ0_isLatin1_aae02_18 : decode cJ0_isLatin1_aae02 18 = .ok (.ireturn, 1) := by decide +kernel
theorem dJ0_checkIndex_df160_0 : decode cJ0_checkIndex_df160 0 = .ok (.iload_n 0, 1) := by decide +kernel
theorem dJ0_checkIndex_df160_1 : decode cJ0_checkIndex_df160 1 = .ok (.iload_n 1, 1) := by decide +kernel
theorem dJ0_checkIndex_df160_2 : decode cJ0_checkIndex_df160 2 = .ok (.getstatic 1053, 3) := by decide +kernel
theorem dJ0_checkIndex_df160_5 : decode cJ0_checkIndex_df160 5 = .ok (.invokestatic 1059, 3) := by decide +kernel
theorem dJ0_checkIndex_df160_8 : decode cJ0_checkIndex_df160 8 = .ok (.pop, 1) := by decide +kernel
theorem dJ0_checkIndex_df160_9 : decode cJ0_checkIndex_df160 9 = .ok (.return_, 1) := by decide +kernel
theorem dJ1_charAt_3b067_0 : decode cJ1_charAt_3b067 0 = .ok (.iload_n 1, 1) := by decide +kernel
theorem dJ1_charAt_3b067_1 : decode cJ1_charAt_3b067 1 = .ok (.aload_n 0, 1) := by decide +kernel
theorem dJ1_charAt_3b067_2 : decode cJ1_charAt_3b067 2 = .ok (.arraylength, 1) := by decide +kernel
theorem dJ1_charAt_3b067_3 : decode cJ1_charAt_3b067 3 = .ok (.invokestatic 9, 3) := by decide +kernel
theorem dJ1_charAt_3b067_6 : decode cJ1_charAt_3b067 6 = .ok (.aload_n 0, 1) := by decide +kernel
theorem dJ1_charAt_3b067_7 : decode cJ1_charAt_3b067 7 = .ok (.iload_n 1, 1) := by decide +kernel
theorem dJ1_charAt_3b067_8 : decode cJ1_charAt_3b067 8 = .ok (.baload, 1) := by decide +kernel
theorem dJ1_charAt_3b067_9 : decode cJ1_charAt_3b067 9 = .ok (.sipush 255, 3) := by decide +kernel
theorem dJ1_charAt_3b067_12 : decode cJ1_charAt_3b067 12 = .ok (.iand, 1) := by decide +kernel
theorem dJ1_charAt_3b067_13 : decode cJ1_charAt_3b067 13 = .ok (.i2c, 1) := by decide +kernel
theorem dJ1_charAt_3b067_14 : decode cJ1_charAt_3b067 14 = .ok (.ireturn, 1) := by decide +kernel
theorem dJ2_getChar_3b067_0 : decode cJ2_getChar_3b067 0 = .ok (.getstatic 44, 3) := by decide +kernel
theorem dJ2_getChar_3b067_3 : decode cJ2_getChar_3b067 3 = .ok (.ifCond .ne 25, 3) := by decide +kernel
theorem dJ2_getChar_3b067_6 : decode cJ2_getChar_3b067 6 = .ok (.iload_n 1, 1) := by decide +kernel
theorem dJ2_getChar_3b067_7 : decode cJ2_getChar_3b067 7 = .ok (.ifCond .lt 11, 3) := by decide +kernel
theorem dJ2_getChar_3b067_10 : decode cJ2_getChar_3b067 10 = .ok (.iload_n 1, 1) := by decide +kernel
theorem dJ2_getChar_3b067_11 : decode cJ2_getChar_3b067 11 = .ok (.aload_n 0, 1) := by decide +kernel
theorem dJ2_getChar_3b067_12 : decode cJ2_getChar_3b067 12 = .ok (.invokestatic 48, 3) := by decide +kernel
theorem dJ2_getChar_3b067_15 : decode cJ2_getChar_3b067 15 = .ok (.if_icmp .lt 13, 3) := by decide +kernel
theorem dJ2_getChar_3b067_18 : decode cJ2_getChar_3b067 18 = .ok (.new 52, 3) := by decide +kernel
theorem dJ2_getChar_3b067_21 : decode cJ2_getChar_3b067 21 = .ok (.dup, 1) := by decide +kernel
theorem dJ2_getChar_3b067_22 : decode cJ2_getChar_3b067 22 = .ok (.ldc 54, 2) := by decide +kernel
theorem dJ2_getChar_3b067_24 : decode cJ2_getChar_3b067 24 = .ok (.invokespecial 56, 3) := by decide +kernel
theorem dJ2_getChar_3b067_27 : decode cJ2_getChar_3b067 27 = .ok (.athrow, 1) := by decide +kernel
theorem dJ2_getChar_3b067_28 : decode cJ2_getChar_3b067 28 = .ok (.iload_n 1, 1) := by decide +kernel
theorem dJ2_getChar_3b067_29 : decode cJ2_getChar_3b067 29 = .ok (.iconst 1, 1) := by decide +kernel
theorem dJ2_getChar_3b067_30 : decode cJ2_getChar_3b067 30 = .ok (.ishl, 1) := by decide +kernel
theorem dJ2_getChar_3b067_31 : decode cJ2_getChar_3b067 31 = .ok (.istore_n 1, 1) := by decide +kernel
theorem dJ2_getChar_3b067_32 : decode cJ2_getChar_3b067 32 = .ok (.aload_n 0, 1) := by decide +kernel
theorem dJ2_getChar_3b067_33 : decode cJ2_getChar_3b067 33 = .ok (.iload_n 1, 1) := by decide +kernel
theorem dJ2_getChar_3b067_34 : decode cJ2_getChar_3b067 34 = .ok (.iinc 1 1, 3) := by decide +kernel
theorem dJ2_getChar_3b067_37 : decode cJ2_getChar_3b067 37 = .ok (.baload, 1) := by decide +kernel
theorem dJ2_getChar_3b067_38 : decode cJ2_getChar_3b067 38 = .ok (.sipush 255, 3) := by decide +kernel
theorem dJ2_getChar_3b067_41 : decode cJ2_getChar_3b067 41 = .ok (.iand, 1) := by decide +kernel
theorem dJ2_getChar_3b067_42 : decode cJ2_getChar_3b067 42 = .ok (.getstatic 59, 3) := by decide +kernel
theorem dJ2_getChar_3b067_45 : decode cJ2_getChar_3b067 45 = .ok (.ishl, 1) := by decide +kernel
theorem dJ2_getChar_3b067_46 : decode cJ2_getChar_3b067 46 = .ok (.aload_n 0, 1) := by decide +kernel
theorem dJ2_getChar_3b067_47 : decode cJ2_getChar_3b067 47 = .ok (.iload_n 1, 1) := by decide +kernel
theorem dJ2_getChar_3b067_48 : decode cJ2_getChar_3b067 48 = .ok (.baload, 1) := by decide +kernel
theorem dJ2_getChar_3b067_49 : decode cJ2_getChar_3b067 49 = .ok (.sipush 255, 3) := by decide +kernel
theorem dJ2_getChar_3b067_52 : decode cJ2_getChar_3b067 52 = .ok (.iand, 1) := by decide +kernel
theorem dJ2_getChar_3b067_53 : decode cJ2_getChar_3b067 53 = .ok (.getstatic 63, 3) := by decide +kernel
theorem dJ2_getChar_3b067_56 : decode cJ2_getChar_3b067 56 = .ok (.ishl, 1) := by decide +kernel
theorem dJ2_getChar_3b067_57 : decode cJ2_getChar_3b067 57 = .ok (.ior, 1) := by decide +kernel
theorem dJ2_getChar_3b067_58 : decode cJ2_getChar_3b067 58 = .ok (.i2c, 1) := by decide +kernel
theorem dJ2_getChar_3b067_59 : decode cJ2_getChar_3b067 59 = .ok (.ireturn, 1) := by decide +kernel
theorem dJ2_length_9d52b_0 : decode cJ2_length_9d52b 0 = .ok (.aload_n 0, 1) := by decide +kernel
theorem dJ2_length_9d52b_1 : decode cJ2_length_9d52b 1 = .ok (.arraylength, 1) := by decide +kernel
theorem dJ2_length_9d52b_2 : decode cJ2_length_9d52b 2 = .ok (.iconst 1, 1) := by decide +kernel
theorem dJ2_length_9d52b_3 : decode cJ2_length_9d52b 3 = .ok (.ishr, 1) := by decide +kernel
theorem dJ2_length_9d52b_4 : decode cJ2_length_9d52b 4 = .ok (.ireturn, 1) := by decide +kernel
theorem dJ2_charAt_3b067_0 : decode cJ2_charAt_3b067 0 = .ok (.iload_n 1, 1) := by decide +kernel
theorem dJ2_charAt_3b067_1 : decode cJ2_charAt_3b067 1 = .ok (.aload_n 0, 1) := by decide +kernel
theorem dJ2_charAt_3b067_2 : decode cJ2_charAt_3b067 2 = .ok (.invokestatic 67, 3) := by decide +kernel
theorem dJ2_charAt_3b067_5 : decode cJ2_charAt_3b067 5 = .ok (.aload_n 0, 1) := by decide +kernel
theorem dJ2_charAt_3b067_6 : decode cJ2_charAt_3b067 6 = .ok (.iload_n 1, 1) := by decide +kernel
theorem dJ2_charAt_3b067_7 : decode cJ2_charAt_3b067 7 = .ok (.invokestatic 71, 3) := by decide +kernel
theorem dJ2_charAt_3b067_10 : decode cJ2_charAt_3b067 10 = .ok (.ireturn, 1) := by decide +kernel
theorem dJ2_checkIndex_2214a_0 : decode cJ2_checkIndex_2214a 0 = .ok (.iload_n 0, 1) := by decide +kernel
theorem dJ2_checkIndex_2214a_1 : decode cJ2_checkIndex_2214a 1 = .ok (.aload_n 1, 1) := by decide +kernel
theorem dJ2_checkIndex_2214a_2 : decode cJ2_checkIndex_2214a 2 = .ok (.invokestatic 48, 3) := by decide +kernel
theorem dJ2_checkIndex_2214a_5 : decode cJ2_checkIndex_2214a 5 = .ok (.invokestatic 414, 3) := by decide +kernel
theorem dJ2_checkIndex_2214a_8 : decode cJ2_checkIndex_2214a 8 = .ok (.return_, 1) := by decide +kernel
theorem dJ3_checkIndex_8e157_0 : decode cJ3_checkIndex_8e157 0 = .ok (.iload_n 0, 1) := by decide +kernel
theorem dJ3_checkIndex_8e157_1 : decode cJ3_checkIndex_8e157 1 = .ok (.ifCond .lt 8, 3) := by decide +kernel
theorem dJ3_checkIndex_8e157_4 : decode cJ3_checkIndex_8e157 4 = .ok (.iload_n 0, 1) := by decide +kernel
theorem dJ3_checkIndex_8e157_5 : decode cJ3_checkIndex_8e157 5 = .ok (.iload_n 1, 1) := by decide +kernel
theorem dJ3_checkIndex_8e157_6 : decode cJ3_checkIndex_8e157 6 = .ok (.if_icmp .lt 10, 3) := by decide +kernel
theorem dJ3_checkIndex_8e157_9 : decode cJ3_checkIndex_8e157 9 = .ok (.aload_n 2, 1) := by decide +kernel
theorem dJ3_checkIndex_8e157_10 : decode cJ3_checkIndex_8e157 10 = .ok (.iload_n 0, 1) := by decide +kernel
theorem dJ3_checkIndex_8e157_11 : decode cJ3_checkIndex_8e157 11 = .ok (.iload_n 1, 1) := by decide +kernel
theorem dJ3_checkIndex_8e157_12 : decode cJ3_checkIndex_8e157 12 = .ok (.invokestatic 95, 3) := by decide +kernel
theorem dJ3_checkIndex_8e157_15 : decode cJ3_checkIndex_8e157 15 = .ok (.athrow, 1) := by decide +kernel
theorem dJ3_checkIndex_8e157_16 : decode cJ3_checkIndex_8e157 16 = .ok (.iload_n 0, 1) := by decide +kernel
theorem dJ3_checkIndex_8e157_17 : decode cJ3_checkIndex_8e157 17 = .ok (.ireturn, 1) := by decide +kernel
theorem dJ6_numberOfTrailingZeros_0f7a4_0 : decode cJ6_numberOfTrailingZeros_0f7a4 0 = .ok (.iload_n 0, 1) := by decide +kernel
theorem dJ6_numberOfTrailingZeros_0f7a4_1 : decode cJ6_numberOfTrailingZeros_0f7a4 1 = .ok (.iconst (-1), 1) := by decide +kernel
theorem dJ6_numberOfTrailingZeros_0f7a4_2 : decode cJ6_numberOfTrailingZeros_0f7a4 2 = .ok (.ixor, 1) := by decide +kernel
theorem dJ6_numberOfTrailingZeros_0f7a4_3 : decode cJ6_numberOfTrailingZeros_0f7a4 3 = .ok (.iload_n 0, 1) := by decide +kernel
theorem dJ6_numberOfTrailingZeros_0f7a4_4 : decode cJ6_numberOfTrailingZeros_0f7a4 4 = .ok (.iconst 1, 1) := by decide +kernel
theorem dJ6_numberOfTrailingZeros_0f7a4_5 : decode cJ6_numberOfTrailingZeros_0f7a4 5 = .ok (.isub, 1) := by decide +kernel
theorem dJ6_numberOfTrailingZeros_0f7a4_6 : decode cJ6_numberOfTrailingZeros_0f7a4 6 = .ok (.iand, 1) := by decide +kernel
theorem dJ6_numberOfTrailingZeros_0f7a4_7 : decode cJ6_numberOfTrailingZeros_0f7a4 7 = .ok (.istore_n 0, 1) := by decide +kernel
theorem dJ6_numberOfTrailingZeros_0f7a4_8 : decode cJ6_numberOfTrailingZeros_0f7a4 8 = .ok (.iload_n 0, 1) := by decide +kernel
theorem dJ6_numberOfTrailingZeros_0f7a4_9 : decode cJ6_numberOfTrailingZeros_0f7a4 9 = .ok (.ifCond .gt 8, 3) := by decide +kernel
theorem dJ6_numberOfTrailingZeros_0f7a4_12 : decode cJ6_numberOfTrailingZeros_0f7a4 12 = .ok (.iload_n 0, 1) := by decide +kernel
theorem dJ6_numberOfTrailingZeros_0f7a4_13 : decode cJ6_numberOfTrailingZeros_0f7a4 13 = .ok (.bipush 32, 2) := by decide +kernel
theorem dJ6_numberOfTrailingZeros_0f7a4_15 : decode cJ6_numberOfTrailingZeros_0f7a4 15 = .ok (.iand, 1) := by decide +kernel
theorem dJ6_numberOfTrailingZeros_0f7a4_16 : decode cJ6_numberOfTrailingZeros_0f7a4 16 = .ok (.ireturn, 1) := by decide +kernel
theorem dJ6_numberOfTrailingZeros_0f7a4_17 : decode cJ6_numberOfTrailingZeros_0f7a4 17 = .ok (.iconst 1, 1) := by decide +kernel
theorem dJ6_numberOfTrailingZeros_0f7a4_18 : decode cJ6_numberOfTrailingZeros_0f7a4 18 = .ok (.istore_n 1, 1) := by decide +kernel
theorem dJ6_numberOfTrailingZeros_0f7a4_19 : decode cJ6_numberOfTrailingZeros_0f7a4 19 = .ok (.iload_n 0, 1) := by decide +kernel
theorem dJ6_numberOfTrailingZeros_0f7a4_20 : decode cJ6_numberOfTrailingZeros_0f7a4 20 = .ok (.ldc_w 264, 3) := by decide +kernel
theorem dJ6_numberOfTrailingZeros_0f7a4_23 : decode cJ6_numberOfTrailingZeros_0f7a4 23 = .ok (.if_icmp .le 11, 3) := by decide +kernel
theorem dJ6_numberOfTrailingZeros_0f7a4_26 : decode cJ6_numberOfTrailingZeros_0f7a4 26 = .ok (.iinc 1 16, 3) := by decide +kernel
theorem dJ6_numberOfTrailingZeros_0f7a4_29 : decode cJ6_numberOfTrailingZeros_0f7a4 29 = .ok (.iload_n 0, 1) := by decide +kernel
theorem dJ6_numberOfTrailingZeros_0f7a4_30 : decode cJ6_numberOfTrailingZeros_0f7a4 30 = .ok (.bipush 16, 2) := by decide +kernel
theorem dJ6_numberOfTrailingZeros_0f7a4_32 : decode cJ6_numberOfTrailingZeros_0f7a4 32 = .ok (.iushr, 1) := by decide +kernel
theorem dJ6_numberOfTrailingZeros_0f7a4_33 : decode cJ6_numberOfTrailingZeros_0f7a4 33 = .ok (.istore_n 0, 1) := by decide +kernel
theorem dJ6_numberOfTrailingZeros_0f7a4_34 : decode cJ6_numberOfTrailingZeros_0f7a4 34 = .ok (.iload_n 0, 1) := by decide +kernel
theorem dJ6_numberOfTrailingZeros_0f7a4_35 : decode cJ6_numberOfTrailingZeros_0f7a4 35 = .ok (.sipush 256, 3) := by decide +kernel
theorem dJ6_numberOfTrailingZeros_0f7a4_38 : decode cJ6_numberOfTrailingZeros_0f7a4 38 = .ok (.if_icmp .le 11, 3) := by decide +kernel
theorem dJ6_numberOfTrailingZeros_0f7a4_41 : decode cJ6_numberOfTrailingZeros_0f7a4 41 = .ok (.iinc 1 8, 3) := by decide +kernel
theorem dJ6_numberOfTrailingZeros_0f7a4_44 : decode cJ6_numberOfTrailingZeros_0f7a4 44 = .ok (.iload_n 0, 1) := by decide +kernel
theorem dJ6_numberOfTrailingZeros_0f7a4_45 : decode cJ6_numberOfTrailingZeros_0f7a4 45 = .ok (.bipush 8, 2) := by decide +kernel
theorem dJ6_numberOfTrailingZeros_0f7a4_47 : decode cJ6_numberOfTrailingZeros_0f7a4 47 = .ok (.iushr, 1) := by decide +kernel
theorem dJ6_numberOfTrailingZeros_0f7a4_48 : decode cJ6_numberOfTrailingZeros_0f7a4 48 = .ok (.istore_n 0, 1) := by decide +kernel
theorem dJ6_numberOfTrailingZeros_0f7a4_49 : decode cJ6_numberOfTrailingZeros_0f7a4 49 = .ok (.iload_n 0, 1) := by decide +kernel
theorem dJ6_numberOfTrailingZeros_0f7a4_50 : decode cJ6_numberOfTrailingZeros_0f7a4 50 = .ok (.bipush 16, 2) := by decide +kernel
theorem dJ6_numberOfTrailingZeros_0f7a4_52 : decode cJ6_numberOfTrailingZeros_0f7a4 52 = .ok (.if_icmp .le 10, 3) := by decide +kernel
theorem dJ6_numberOfTrailingZeros_0f7a4_55 : decode cJ6_numberOfTrailingZeros_0f7a4 55 = .ok (.iinc 1 4, 3) := by decide +kernel
theorem dJ6_numberOfTrailingZeros_0f7a4_58 : decode cJ6_numberOfTrailingZeros_0f7a4 58 = .ok (.iload_n 0, 1) := by decide +kernel
theorem dJ6_numberOfTrailingZeros_0f7a4_59 : decode cJ6_numberOfTrailingZeros_0f7a4 59 = .ok (.iconst 4, 1) := by decide +kernel
theorem dJ6_numberOfTrailingZeros_0f7a4_60 : decode cJ6_numberOfTrailingZeros_0f7a4 60 = .ok (.iushr, 1) := by decide +kernel
theorem dJ6_numberOfTrailingZeros_0f7a4_61 : decode cJ6_numberOfTrailingZeros_0f7a4 61 = .ok (.istore_n 0, 1) := by decide +kernel
theorem dJ6_numberOfTrailingZeros_0f7a4_62 : decode cJ6_numberOfTrailingZeros_0f7a4 62 = .ok (.iload_n 0, 1) := by decide +kernel
theorem dJ6_numberOfTrailingZeros_0f7a4_63 : decode cJ6_numberOfTrailingZeros_0f7a4 63 = .ok (.iconst 4, 1) := by decide +kernel
theorem dJ6_numberOfTrailingZeros_0f7a4_64 : decode cJ6_numberOfTrailingZeros_0f7a4 64 = .ok (.if_icmp .le 10, 3) := by decide +kernel
theorem dJ6_numberOfTrailingZeros_0f7a4_67 : decode cJ6_numberOfTrailingZeros_0f7a4 67 = .ok (.iinc 1 2, 3) := by decide +kernel
theorem dJ6_numberOfTrailingZeros_0f7a4_70 : decode cJ6_numberOfTrailingZeros_0f7a4 70 = .ok (.iload_n 0, 1) := by decide +kernel
theorem dJ6_numberOfTrailingZeros_0f7a4_71 : decode cJ6_numberOfTrailingZeros_0f7a4 71 = .ok (.iconst 2, 1) := by decide +kernel
theorem dJ6_numberOfTrailingZeros_0f7a4_72 : decode cJ6_numberOfTrailingZeros_0f7a4 72 = .ok (.iushr, 1) := by decide +kernel
theorem dJ6_numberOfTrailingZeros_0f7a4_73 : decode cJ6_numberOfTrailingZeros_0f7a4 73 = .ok (.istore_n 0, 1) := by decide +kernel
theorem dJ6_numberOfTrailingZeros_0f7a4_74 : decode cJ6_numberOfTrailingZeros_0f7a4 74 = .ok (.iload_n 1, 1) := by decide +kernel
theorem dJ6_numberOfTrailingZeros_0f7a4_75 : decode cJ6_numberOfTrailingZeros_0f7a4 75 = .ok (.iload_n 0, 1) := by decide +kernel
theorem dJ6_numberOfTrailingZeros_0f7a4_76 : decode cJ6_numberOfTrailingZeros_0f7a4 76 = .ok (.iconst 1, 1) := by decide +kernel
theorem dJ6_numberOfTrailingZeros_0f7a4_77 : decode cJ6_numberOfTrailingZeros_0f7a4 77 = .ok (.iushr, 1) := by decide +kernel
theorem dJ6_numberOfTrailingZeros_0f7a4_78 : decode cJ6_numberOfTrailingZeros_0f7a4 78 = .ok (.iadd, 1) := by decide +kernel
theorem dJ6_numberOfTrailingZeros_0f7a4_79 : decode cJ6_numberOfTrailingZeros_0f7a4 79 = .ok (.ireturn, 1) := by decide +kernel
theorem dJ6_bitCount_0f7a4_0 : decode cJ6_bitCount_0f7a4 0 = .ok (.iload_n 0, 1) := by decide +kernel
theorem dJ6_bitCount_0f7a4_1 : decode cJ6_bitCount_0f7a4 1 = .ok (.iload_n 0, 1) := by decide +kernel
theorem dJ6_bitCount_0f7a4_2 : decode cJ6_bitCount_0f7a4 2 = .ok (.iconst 1, 1) := by decide +kernel
theorem dJ6_bitCount_0f7a4_3 : decode cJ6_bitCount_0f7a4 3 = .ok (.iushr, 1) := by decide +kernel
theorem dJ6_bitCount_0f7a4_4 : decode cJ6_bitCount_0f7a4 4 = .ok (.ldc_w 265, 3) := by decide +kernel
theorem dJ6_bitCount_0f7a4_7 : decode cJ6_bitCount_0f7a4 7 = .ok (.iand, 1) := by decide +kernel
theorem dJ6_bitCount_0f7a4_8 : decode cJ6_bitCount_0f7a4 8 = .ok (.isub, 1) := by decide +kernel
theorem dJ6_bitCount_0f7a4_9 : decode cJ6_bitCount_0f7a4 9 = .ok (.istore_n 0, 1) := by decide +kernel
theorem dJ6_bitCount_0f7a4_10 : decode cJ6_bitCount_0f7a4 10 = .ok (.iload_n 0, 1) := by decide +kernel
theorem dJ6_bitCount_0f7a4_11 : decode cJ6_bitCount_0f7a4 11 = .ok (.ldc_w 266, 3) := by decide +kernel
theorem dJ6_bitCount_0f7a4_14 : decode cJ6_bitCount_0f7a4 14 = .ok (.iand, 1) := by decide +kernel
theorem dJ6_bitCount_0f7a4_15 : decode cJ6_bitCount_0f7a4 15 = .ok (.iload_n 0, 1) := by decide +kernel
theorem dJ6_bitCount_0f7a4_16 : decode cJ6_bitCount_0f7a4 16 = .ok (.iconst 2, 1) := by decide +kernel
theorem dJ6_bitCount_0f7a4_17 : decode cJ6_bitCount_0f7a4 17 = .ok (.iushr, 1) := by decide +kernel
theorem dJ6_bitCount_0f7a4_18 : decode cJ6_bitCount_0f7a4 18 = .ok (.ldc_w 266, 3) := by decide +kernel
theorem dJ6_bitCount_0f7a4_21 : decode cJ6_bitCount_0f7a4 21 = .ok (.iand, 1) := by decide +kernel
theorem dJ6_bitCount_0f7a4_22 : decode cJ6_bitCount_0f7a4 22 = .ok (.iadd, 1) := by decide +kernel
theorem dJ6_bitCount_0f7a4_23 : decode cJ6_bitCount_0f7a4 23 = .ok (.istore_n 0, 1) := by decide +kernel
theorem dJ6_bitCount_0f7a4_24 : decode cJ6_bitCount_0f7a4 24 = .ok (.iload_n 0, 1) := by decide +kernel
theorem dJ6_bitCount_0f7a4_25 : decode cJ6_bitCount_0f7a4 25 = .ok (.iload_n 0, 1) := by decide +kernel
theorem dJ6_bitCount_0f7a4_26 : decode cJ6_bitCount_0f7a4 26 = .ok (.iconst 4, 1) := by decide +kernel
theorem dJ6_bitCount_0f7a4_27 : decode cJ6_bitCount_0f7a4 27 = .ok (.iushr, 1) := by decide +kernel
theorem dJ6_bitCount_0f7a4_28 : decode cJ6_bitCount_0f7a4 28 = .ok (.iadd, 1) := by decide +kernel
theorem dJ6_bitCount_0f7a4_29 : decode cJ6_bitCount_0f7a4 29 = .ok (.ldc_w 267, 3) := by decide +kernel
theorem dJ6_bitCount_0f7a4_32 : decode cJ6_bitCount_0f7a4 32 = .ok (.iand, 1) := by decide +kernel
theorem dJ6_bitCount_0f7a4_33 : decode cJ6_bitCount_0f7a4 33 = .ok (.istore_n 0, 1) := by decide +kernel
theorem dJ6_bitCount_0f7a4_34 : decode cJ6_bitCount_0f7a4 34 = .ok (.iload_n 0, 1) := by decide +kernel
theorem dJ6_bitCount_0f7a4_35 : decode cJ6_bitCount_0f7a4 35 = .ok (.iload_n 0, 1) := by decide +kernel
theorem dJ6_bitCount_0f7a4_36 : decode cJ6_bitCount_0f7a4 36 = .ok (.bipush 8, 2) := by decide +kernel
theorem dJ6_bitCount_0f7a4_38 : decode cJ6_bitCount_0f7a4 38 = .ok (.iushr, 1) := by decide +kernel
theorem dJ6_bitCount_0f7a4_39 : decode cJ6_bitCount_0f7a4 39 = .ok (.iadd, 1) := by decide +kernel
theorem dJ6_bitCount_0f7a4_40 : decode cJ6_bitCount_0f7a4 40 = .ok (.istore_n 0, 1) := by decide +kernel
theorem dJ6_bitCount_0f7a4_41 : decode cJ6_bitCount_0f7a4 41 = .ok (.iload_n 0, 1) := by decide +kernel
theorem dJ6_bitCount_0f7a4_42 : decode cJ6_bitCount_0f7a4 42 = .ok (.iload_n 0, 1) := by decide +kernel
theorem dJ6_bitCount_0f7a4_43 : decode cJ6_bitCount_0f7a4 43 = .ok (.bipush 16, 2) := by decide +kernel
theorem dJ6_bitCount_0f7a4_45 : decode cJ6_bitCount_0f7a4 45 = .ok (.iushr, 1) := by decide +kernel
theorem dJ6_bitCount_0f7a4_46 : decode cJ6_bitCount_0f7a4 46 = .ok (.iadd, 1) := by decide +kernel
theorem dJ6_bitCount_0f7a4_47 : decode cJ6_bitCount_0f7a4 47 = .ok (.istore_n 0, 1) := by decide +kernel
theorem dJ6_bitCount_0f7a4_48 : decode cJ6_bitCount_0f7a4 48 = .ok (.iload_n 0, 1) := by decide +kernel
theorem dJ6_bitCount_0f7a4_49 : decode cJ6_bitCount_0f7a4 49 = .ok (.bipush 63, 2) := by decide +kernel
theorem dJ6_bitCount_0f7a4_51 : decode cJ6_bitCount_0f7a4 51 = .ok (.iand, 1) := by decide +kernel
theorem dJ6_bitCount_0f7a4_52 : decode cJ6_bitCount_0f7a4 52 = .ok (.ireturn, 1) := by decide +kernel
theorem dJ9_abs_0f7a4_0 : decode cJ9_abs_0f7a4 0 = .ok (.iload_n 0, 1) := by decide +kernel
theorem dJ9_abs_0f7a4_1 : decode cJ9_abs_0f7a4 1 = .ok (.ifCond .ge 8, 3) := by decide +kernel
theorem dJ9_abs_0f7a4_4 : decode cJ9_abs_0f7a4 4 = .ok (.iload_n 0, 1) := by decide +kernel
theorem dJ9_abs_0f7a4_5 : decode cJ9_abs_0f7a4 5 = .ok (.ineg, 1) := by decide +kernel
theorem dJ9_abs_0f7a4_6 : decode cJ9_abs_0f7a4 6 = .ok (.goto 4, 3) := by decide +kernel
theorem dJ9_abs_0f7a4_9 : decode cJ9_abs_0f7a4 9 = .ok (.iload_n 0, 1) := by decide +kernel
theorem dJ9_abs_0f7a4_10 : decode cJ9_abs_0f7a4 10 = .ok (.ireturn, 1) := by decide +kernel
theorem dJ9_max_7cf53_0 : decode cJ9_max_7cf53 0 = .ok (.iload_n 0, 1) := by decide +kernel
theorem dJ9_max_7cf53_1 : decode cJ9_max_7cf53 1 = .ok (.iload_n 1, 1) := by decide +kernel
theorem dJ9_max_7cf53_2 : decode cJ9_max_7cf53 2 = .ok (.if_icmp .lt 7, 3) := by decide +kernel
theorem dJ9_max_7cf53_5 : decode cJ9_max_7cf53 5 = .ok (.iload_n 0, 1) := by decide +kernel
theorem dJ9_max_7cf53_6 : decode cJ9_max_7cf53 6 = .ok (.goto 4, 3) := by decide +kernel
theorem dJ9_max_7cf53_9 : decode cJ9_max_7cf53 9 = .ok (.iload_n 1, 1) := by decide +kernel
theorem dJ9_max_7cf53_10 : decode cJ9_max_7cf53 10 = .ok (.ireturn, 1) := by decide +kernel
theorem dJ9_min_7cf53_0 : decode cJ9_min_7cf53 0 = .ok (.iload_n 0, 1) := by decide +kernel
theorem dJ9_min_7cf53_1 : decode cJ9_min_7cf53 1 = .ok (.iload_n 1, 1) := by decide +kernel
theorem dJ9_min_7cf53_2 : decode cJ9_min_7cf53 2 = .ok (.if_icmp .gt 7, 3) := by decide +kernel
theorem dJ9_min_7cf53_5 : decode cJ9_min_7cf53 5 = .ok (.iload_n 0, 1) := by decide +kernel
theorem dJ9_min_7cf53_6 : decode cJ9_min_7cf53 6 = .ok (.goto 4, 3) := by decide +kernel
theorem dJ9_min_7cf53_9 : decode cJ9_min_7cf53 9 = .ok (.iload_n 1, 1) := by decide +kernel
theorem dJ9_min_7cf53_10 : decode cJ9_min_7cf53 10 = .ok (.ireturn, 1) := by decide +kernel
