theorem dX9_init_0 : decode cX9_init 0 = .ok (.aload_n 0, 1) := by decide +kernel
theorem dX9_init_1 : decode cX9_init 1 = .ok (.invokespecial 1, 3) := by decide +kernel
theorem dX9_init_4 : decode cX9_init 4 = .ok (.aload_n 0, 1) := by decide +kernel
theorem dX9_init_5 : decode cX9_init 5 = .ok (.sipush 1050, 3) := by decide +kernel
theorem dX9_init_8 : decode cX9_init 8 = .ok (.newarray .int, 2) := by decide +kernel
theorem dX9_init_10 : decode cX9_init 10 = .ok (.putfield 7, 3) := by decide +kernel
theorem dX9_init_13 : decode cX9_init 13 = .ok (.aload_n 0, 1) := by decide +kernel
theorem dX9_init_14 : decode cX9_init 14 = .ok (.sipush 4200, 3) := by decide +kernel
theorem dX9_init_17 : decode cX9_init 17 = .ok (.newarray .int, 2) := by decide +kernel
theorem dX9_init_19 : decode cX9_init 19 = .ok (.putfield 13, 3) := by decide +kernel
theorem dX9_init_22 : decode cX9_init 22 = .ok (.aload_n 0, 1) := by decide +kernel
theorem dX9_init_23 : decode cX9_init 23 = .ok (.sipush 1050, 3) := by decide +kernel
theorem dX9_init_26 : decode cX9_init 26 = .ok (.newarray .int, 2) := by decide +kernel
theorem dX9_init_28 : decode cX9_init 28 = .ok (.putfield 16, 3) := by decide +kernel
theorem dX9_init_31 : decode cX9_init 31 = .ok (.aload_n 0, 1) := by decide +kernel
theorem dX9_init_32 : decode cX9_init 32 = .ok (.bipush 10, 2) := by decide +kernel
theorem dX9_init_34 : decode cX9_init 34 = .ok (.newarray .int, 2) := by decide +kernel
theorem dX9_init_36 : decode cX9_init 36 = .ok (.putfield 19, 3) := by decide +kernel
theorem dX9_init_39 : decode cX9_init 39 = .ok (.aload_n 0, 1) := by decide +kernel
theorem dX9_init_40 : decode cX9_init 40 = .ok (.sipush 150, 3) := by decide +kernel
theorem dX9_init_43 : decode cX9_init 43 = .ok (.newarray .int, 2) := by decide +kernel
theorem dX9_init_45 : decode cX9_init 45 = .ok (.putfield 22, 3) := by decide +kernel
theorem dX9_init_48 : decode cX9_init 48 = .ok (.aload_n 0, 1) := by decide +kernel
theorem dX9_init_49 : decode cX9_init 49 = .ok (.getfield 7, 3) := by decide +kernel
theorem dX9_init_52 : decode cX9_init 52 = .ok (.iconst 2, 1) := by decide +kernel
theorem dX9_init_53 : decode cX9_init 53 = .ok (.bipush 10, 2) := by decide +kernel
theorem dX9_init_55 : decode cX9_init 55 = .ok (.iastore, 1) := by decide +kernel
theorem dX9_init_56 : decode cX9_init 56 = .ok (.aload_n 0, 1) := by decide +kernel
theorem dX9_init_57 : decode cX9_init 57 = .ok (.getfield 7, 3) := by decide +kernel
theorem dX9_init_60 : decode cX9_init 60 = .ok (.iconst 5, 1) := by decide +kernel
theorem dX9_init_61 : decode cX9_init 61 = .ok (.iconst (-1), 1) := by decide +kernel
theorem dX9_init_62 : decode cX9_init 62 = .ok (.iastore, 1) := by decide +kernel
theorem dX9_init_63 : decode cX9_init 63 = .ok (.aload_n 0, 1) := by decide +kernel
theorem dX9_init_64 : decode cX9_init 64 = .ok (.getfield 7, 3) := by decide +kernel
theorem dX9_init_67 : decode cX9_init 67 = .ok (.bipush 9, 2) := by decide +kernel
theorem dX9_init_69 : decode cX9_init 69 = .ok (.iconst (-1), 1) := by decide +kernel
theorem dX9_init_70 : decode cX9_init 70 = .ok (.iastore, 1) := by decide +kernel
theorem dX9_init_71 : decode cX9_init 71 = .ok (.return_, 1) := by decide +kernel
theorem dX9_thrown_0 : decode cX9_thrown 0 = .ok (.aload_n 0, 1) := by decide +kernel
theorem dX9_thrown_1 : decode cX9_thrown 1 = .ok (.getfield 25, 3) := by decide +kernel
theorem dX9_thrown_4 : decode cX9_thrown 4 = .ok (.ireturn, 1) := by decide +kernel
theorem dX9_in_0 : decode cX9_in 0 = .ok (.lload_n 0, 1) := by decide +kernel
theorem dX9_in_1 : decode cX9_in 1 = .ok (.lload_n 2, 1) := by decide +kernel
theorem dX9_in_2 : decode cX9_in 2 = .ok (.lcmp, 1) := by decide +kernel
theorem dX9_in_3 : decode cX9_in 3 = .ok (.ifCond .lt 14, 3) := by decide +kernel
theorem dX9_in_6 : decode cX9_in 6 = .ok (.lload_n 0, 1) := by decide +kernel
theorem dX9_in_7 : decode cX9_in 7 = .ok (.lload 4, 2) := by decide +kernel
theorem dX9_in_9 : decode cX9_in 9 = .ok (.lcmp, 1) := by decide +kernel
theorem dX9_in_10 : decode cX9_in 10 = .ok (.ifCond .gt 7, 3) := by decide +kernel
theorem dX9_in_13 : decode cX9_in 13 = .ok (.iconst 1, 1) := by decide +kernel
theorem dX9_in_14 : decode cX9_in 14 = .ok (.goto 4, 3) := by decide +kernel
theorem dX9_in_17 : decode cX9_in 17 = .ok (.iconst 0, 1) := by decide +kernel
theorem dX9_in_18 : decode cX9_in 18 = .ok (.ireturn, 1) := by decide +kernel
theorem dX9_goes_0 : decode cX9_goes 0 = .ok (.aload_n 0, 1) := by decide +kernel
theorem dX9_goes_1 : decode cX9_goes 1 = .ok (.iload_n 1, 1) := by decide +kernel
theorem dX9_goes_2 : decode cX9_goes 2 = .ok (.ifCond .ne 7, 3) := by decide +kernel
theorem dX9_goes_5 : decode cX9_goes 5 = .ok (.iconst 1, 1) := by decide +kernel
theorem dX9_goes_6 : decode cX9_goes 6 = .ok (.goto 12, 3) := by decide +kernel
theorem dX9_goes_9 : decode cX9_goes 9 = .ok (.iload_n 2, 1) := by decide +kernel
theorem dX9_goes_10 : decode cX9_goes 10 = .ok (.ifCond .ne 7, 3) := by decide +kernel
theorem dX9_goes_13 : decode cX9_goes 13 = .ok (.iconst 2, 1) := by decide +kernel
theorem dX9_goes_14 : decode cX9_goes 14 = .ok (.goto 4, 3) := by decide +kernel
theorem dX9_goes_17 : decode cX9_goes 17 = .ok (.iconst 0, 1) := by decide +kernel
theorem dX9_goes_18 : decode cX9_goes 18 = .ok (.putfield 25, 3) := by decide +kernel
theorem dX9_goes_21 : decode cX9_goes 21 = .ok (.aload_n 0, 1) := by decide +kernel
theorem dX9_goes_22 : decode cX9_goes 22 = .ok (.getfield 25, 3) := by decide +kernel
theorem dX9_goes_25 : decode cX9_goes 25 = .ok (.ifCond .ne 7, 3) := by decide +kernel
theorem dX9_goes_28 : decode cX9_goes 28 = .ok (.iconst 1, 1) := by decide +kernel
theorem dX9_goes_29 : decode cX9_goes 29 = .ok (.goto 4, 3) := by decide +kernel
theorem dX9_goes_32 : decode cX9_goes 32 = .ok (.iconst 0, 1) := by decide +kernel
theorem dX9_goes_33 : decode cX9_goes 33 = .ok (.ireturn, 1) := by decide +kernel
theorem dX9_save_0 : decode cX9_save 0 = .ok (.aload_n 0, 1) := by decide +kernel
theorem dX9_save_1 : decode cX9_save 1 = .ok (.getfield 29, 3) := by decide +kernel
theorem dX9_save_4 : decode cX9_save 4 = .ok (.iconst 4, 1) := by decide +kernel
theorem dX9_save_5 : decode cX9_save 5 = .ok (.if_icmp .ne 44, 3) := by decide +kernel
theorem dX9_save_8 : decode cX9_save 8 = .ok (.iconst 0, 1) := by decide +kernel
theorem dX9_save_9 : decode cX9_save 9 = .ok (.istore_n 1, 1) := by decide +kernel
theorem dX9_save_10 : decode cX9_save 10 = .ok (.iload_n 1, 1) := by decide +kernel
theorem dX9_save_11 : decode cX9_save 11 = .ok (.sipush 3150, 3) := by decide +kernel
theorem dX9_save_14 : decode cX9_save 14 = .ok (.if_icmp .ge 25, 3) := by decide +kernel
theorem dX9_save_17 : decode cX9_save 17 = .ok (.aload_n 0, 1) := by decide +kernel
theorem dX9_save_18 : decode cX9_save 18 = .ok (.getfield 13, 3) := by decide +kernel
theorem dX9_save_21 : decode cX9_save 21 = .ok (.iload_n 1, 1) := by decide +kernel
theorem dX9_save_22 : decode cX9_save 22 = .ok (.aload_n 0, 1) := by decide +kernel
theorem dX9_save_23 : decode cX9_save 23 = .ok (.getfield 13, 3) := by decide +kernel
theorem dX9_save_26 : decode cX9_save 26 = .ok (.iload_n 1, 1) := by decide +kernel
theorem dX9_save_27 : decode cX9_save 27 = .ok (.sipush 1050, 3) := by decide +kernel
theorem dX9_save_30 : decode cX9_save 30 = .ok (.iadd, 1) := by decide +kernel
theorem dX9_save_31 : decode cX9_save 31 = .ok (.iaload, 1) := by decide +kernel
theorem dX9_save_32 : decode cX9_save 32 = .ok (.iastore, 1) := by decide +kernel
theorem dX9_save_33 : decode cX9_save 33 = .ok (.iinc 1 1, 3) := by decide +kernel
theorem dX9_save_36 : decode cX9_save 36 = .ok (.goto (-26), 3) := by decide +kernel
theorem dX9_save_39 : decode cX9_save 39 = .ok (.aload_n 0, 1) := by decide +kernel
theorem dX9_save_40 : decode cX9_save 40 = .ok (.dup, 1) := by decide +kernel
theorem dX9_save_41 : decode cX9_save 41 = .ok (.getfield 29, 3) := by decide +kernel
theorem dX9_save_44 : decode cX9_save 44 = .ok (.iconst 1, 1) := by decide +kernel
theorem dX9_save_45 : decode cX9_save 45 = .ok (.isub, 1) := by decide +kernel
theorem dX9_save_46 : decode cX9_save 46 = .ok (.putfield 29, 3) := by decide +kernel
theorem dX9_save_49 : decode cX9_save 49 = .ok (.iconst 0, 1) := by decide +kernel
theorem dX9_save_50 : decode cX9_save 50 = .ok (.istore_n 1, 1) := by decide +kernel
theorem dX9_save_51 : decode cX9_save 51 = .ok (.iload_n 1, 1) := by decide +kernel
theorem dX9_save_52 : decode cX9_save 52 = .ok (.sipush 1050, 3) := by decide +kernel
theorem dX9_save_55 : decode cX9_save 55 = .ok (.if_icmp .ge 30, 3) := by decide +kernel
theorem dX9_save_58 : decode cX9_save 58 = .ok (.aload_n 0, 1) := by decide +kernel
theorem dX9_save_59 : decode cX9_save 59 = .ok (.getfield 13, 3) := by decide +kernel
theorem dX9_save_62 : decode cX9_save 62 = .ok (.sipush 1050, 3) := by decide +kernel
theorem dX9_save_65 : decode cX9_save 65 = .ok (.aload_n 0, 1) := by decide +kernel
theorem dX9_save_66 : decode cX9_save 66 = .ok (.getfield 29, 3) := by decide +kernel
theorem dX9_save_69 : decode cX9_save 69 = .ok (.imul, 1) := by decide +kernel
theorem dX9_save_70 : decode cX9_save 70 = .ok (.iload_n 1, 1) := by decide +kernel
theorem dX9_save_71 : decode cX9_save 71 = .ok (.iadd, 1) := by decide +kernel
theorem dX9_save_72 : decode cX9_save 72 = .ok (.aload_n 0, 1) := by decide +kernel
theorem dX9_save_73 : decode cX9_save 73 = .ok (.getfield 7, 3) := by decide +kernel
theorem dX9_save_76 : decode cX9_save 76 = .ok (.iload_n 1, 1) := by decide +kernel
theorem dX9_save_77 : decode cX9_save 77 = .ok (.iaload, 1) := by decide +kernel
theorem dX9_save_78 : decode cX9_save 78 = .ok (.iastore, 1) := by decide +kernel
theorem dX9_save_79 : decode cX9_save 79 = .ok (.iinc 1 1, 3) := by decide +kernel
theorem dX9_save_82 : decode cX9_save 82 = .ok (.goto (-31), 3) := by decide +kernel
theorem dX9_save_85 : decode cX9_save 85 = .ok (.aload_n 0, 1) := by decide +kernel
theorem dX9_save_86 : decode cX9_save 86 = .ok (.dup, 1) := by decide +kernel
theorem dX9_save_87 : decode cX9_save 87 = .ok (.getfield 29, 3) := by decide +kernel
theorem dX9_save_90 : decode cX9_save 90 = .ok (.iconst 1, 1) := by decide +kernel
theorem dX9_save_91 : decode cX9_save 91 = .ok (.iadd, 1) := by decide +kernel
theorem dX9_save_92 : decode cX9_save 92 = .ok (.putfield 29, 3) := by decide +kernel
theorem dX9_save_95 : decode cX9_save 95 = .ok (.return_, 1) := by decide +kernel
theorem dX9_lays_0 : decode cX9_lays 0 = .ok (.iconst 0, 1) := by decide +kernel
theorem dX9_lays_1 : decode cX9_lays 1 = .ok (.istore_n 1, 1) := by decide +kernel
theorem dX9_lays_2 : decode cX9_lays 2 = .ok (.iload_n 1, 1) := by decide +kernel
theorem dX9_lays_3 : decode cX9_lays 3 = .ok (.sipush 1050, 3) := by decide +kernel
theorem dX9_lays_6 : decode cX9_lays 6 = .ok (.if_icmp .ge 21, 3) := by decide +kernel
theorem dX9_lays_9 : decode cX9_lays 9 = .ok (.aload_n 0, 1) := by decide +kernel
theorem dX9_lays_10 : decode cX9_lays 10 = .ok (.getfield 16, 3) := by decide +kernel
theorem dX9_lays_13 : decode cX9_lays 13 = .ok (.iload_n 1, 1) := by decide +kernel
theorem dX9_lays_14 : decode cX9_lays 14 = .ok (.aload_n 0, 1) := by decide +kernel
theorem dX9_lays_15 : decode cX9_lays 15 = .ok (.getfield 7, 3) := by decide +kernel
theorem dX9_lays_18 : decode cX9_lays 18 = .ok (.iload_n 1, 1) := by decide +kernel
theorem dX9_lays_19 : decode cX9_lays 19 = .ok (.iaload, 1) := by decide +kernel
theorem dX9_lays_20 : decode cX9_lays 20 = .ok (.iastore, 1) := by decide +kernel
theorem dX9_lays_21 : decode cX9_lays 21 = .ok (.iinc 1 1, 3) := by decide +kernel
theorem dX9_lays_24 : decode cX9_lays 24 = .ok (.goto (-22), 3) := by decide +kernel
theorem dX9_lays_27 : decode cX9_lays 27 = .ok (.return_, 1) := by decide +kernel
theorem dX9_takesBack_0 : decode cX9_takesBack 0 = .ok (.iconst 0, 1) := by decide +kernel
theorem dX9_takesBack_1 : decode cX9_takesBack 1 = .ok (.istore_n 1, 1) := by decide +kernel
theorem dX9_takesBack_2 : decode cX9_takesBack 2 = .ok (.iload_n 1, 1) := by decide +kernel
theorem dX9_takesBack_3 : decode cX9_takesBack 3 = .ok (.sipush 1050, 3) := by decide +kernel
theorem dX9_takesBack_6 : decode cX9_takesBack 6 = .ok (.if_icmp .ge 21, 3) := by decide +kernel
theorem dX9_takesBack_9 : decode cX9_takesBack 9 = .ok (.aload_n 0, 1) := by decide +kernel
theorem dX9_takesBack_10 : decode cX9_takesBack 10 = .ok (.getfield 7, 3) := by decide +kernel
theorem dX9_takesBack_13 : decode cX9_takesBack 13 = .ok (.iload_n 1, 1) := by decide +kernel
theorem dX9_takesBack_14 : decode cX9_takesBack 14 = .ok (.aload_n 0, 1) := by decide +kernel
theorem dX9_takesBack_15 : decode cX9_takesBack 15 = .ok (.getfield 16, 3) := by decide +kernel
theorem dX9_takesBack_18 : decode cX9_takesBack 18 = .ok (.iload_n 1, 1) := by decide +kernel
theorem dX9_takesBack_19 : decode cX9_takesBack 19 = .ok (.iaload, 1) := by decide +kernel
theorem dX9_takesBack_20 : decode cX9_takesBack 20 = .ok (.iastore, 1) := by decide +kernel
theorem dX9_takesBack_21 : decode cX9_takesBack 21 = .ok (.iinc 1 1, 3) := by decide +kernel
theorem dX9_takesBack_24 : decode cX9_takesBack 24 = .ok (.goto (-22), 3) := by decide +kernel
theorem dX9_takesBack_27 : decode cX9_takesBack 27 = .ok (.return_, 1) := by decide +kernel
theorem dX9_keyOf_0 : decode cX9_keyOf 0 = .ok (.iload_n 0, 1) := by decide +kernel
theorem dX9_keyOf_1 : decode cX9_keyOf 1 = .ok (.bipush 15, 2) := by decide +kernel
theorem dX9_keyOf_3 : decode cX9_keyOf 3 = .ok (.if_icmp .ge 11, 3) := by decide +kernel
theorem dX9_keyOf_6 : decode cX9_keyOf 6 = .ok (.iconst 2, 1) := by decide +kernel
theorem dX9_keyOf_7 : decode cX9_keyOf 7 = .ok (.iload_n 0, 1) := by decide +kernel
theorem dX9_keyOf_8 : decode cX9_keyOf 8 = .ok (.iconst 3, 1) := by decide +kernel
theorem dX9_keyOf_9 : decode cX9_keyOf 9 = .ok (.idiv, 1) := by decide +kernel
theorem dX9_keyOf_10 : decode cX9_keyOf 10 = .ok (.iadd, 1) := by decide +kernel
theorem dX9_keyOf_11 : decode cX9_keyOf 11 = .ok (.goto 27, 3) := by decide +kernel
theorem dX9_keyOf_14 : decode cX9_keyOf 14 = .ok (.iload_n 0, 1) := by decide +kernel
theorem dX9_keyOf_15 : decode cX9_keyOf 15 = .ok (.bipush 19, 2) := by decide +kernel
theorem dX9_keyOf_17 : decode cX9_keyOf 17 = .ok (.if_icmp .ge 8, 3) := by decide +kernel
theorem dX9_keyOf_20 : decode cX9_keyOf 20 = .ok (.bipush 7, 2) := by decide +kernel
theorem dX9_keyOf_22 : decode cX9_keyOf 22 = .ok (.goto 16, 3) := by decide +kernel
theorem dX9_keyOf_25 : decode cX9_keyOf 25 = .ok (.iload_n 0, 1) := by decide +kernel
theorem dX9_keyOf_26 : decode cX9_keyOf 26 = .ok (.bipush 22, 2) := by decide +kernel
theorem dX9_keyOf_28 : decode cX9_keyOf 28 = .ok (.if_icmp .ge 8, 3) := by decide +kernel
theorem dX9_keyOf_31 : decode cX9_keyOf 31 = .ok (.bipush 8, 2) := by decide +kernel
theorem dX9_keyOf_33 : decode cX9_keyOf 33 = .ok (.goto 5, 3) := by decide +kernel
theorem dX9_keyOf_36 : decode cX9_keyOf 36 = .ok (.bipush 9, 2) := by decide +kernel
theorem dX9_keyOf_38 : decode cX9_keyOf 38 = .ok (.ireturn, 1) := by decide +kernel
theorem dX9_firstOf_0 : decode cX9_firstOf 0 = .ok (.iload_n 0, 1) := by decide +kernel
theorem dX9_firstOf_1 : decode cX9_firstOf 1 = .ok (.bipush 8, 2) := by decide +kernel
theorem dX9_firstOf_3 : decode cX9_firstOf 3 = .ok (.if_icmp .ge 11, 3) := by decide +kernel
theorem dX9_firstOf_6 : decode cX9_firstOf 6 = .ok (.iconst 3, 1) := by decide +kernel
theorem dX9_firstOf_7 : decode cX9_firstOf 7 = .ok (.iload_n 0, 1) := by decide +kernel
theorem dX9_firstOf_8 : decode cX9_firstOf 8 = .ok (.iconst 2, 1) := by decide +kernel
theorem dX9_firstOf_9 : decode cX9_firstOf 9 = .ok (.isub, 1) := by decide +kernel
theorem dX9_firstOf_10 : decode cX9_firstOf 10 = .ok (.imul, 1) := by decide +kernel
theorem dX9_firstOf_11 : decode cX9_firstOf 11 = .ok (.goto 16, 3) := by decide +kernel
theorem dX9_firstOf_14 : decode cX9_firstOf 14 = .ok (.iload_n 0, 1) := by decide +kernel
theorem dX9_firstOf_15 : decode cX9_firstOf 15 = .ok (.bipush 8, 2) := by decide +kernel
theorem dX9_firstOf_17 : decode cX9_firstOf 17 = .ok (.if_icmp .ne 8, 3) := by decide +kernel
theorem dX9_firstOf_20 : decode cX9_firstOf 20 = .ok (.bipush 19, 2) := by decide +kernel
theorem dX9_firstOf_22 : decode cX9_firstOf 22 = .ok (.goto 5, 3) := by decide +kernel
theorem dX9_firstOf_25 : decode cX9_firstOf 25 = .ok (.bipush 22, 2) := by decide +kernel
theorem dX9_firstOf_27 : decode cX9_firstOf 27 = .ok (.ireturn, 1) := by decide +kernel
theorem dX9_lettersOn_0 : decode cX9_lettersOn 0 = .ok (.iload_n 0, 1) := by decide +kernel
theorem dX9_lettersOn_1 : decode cX9_lettersOn 1 = .ok (.bipush 7, 2) := by decide +kernel
theorem dX9_lettersOn_3 : decode cX9_lettersOn 3 = .ok (.if_icmp .eq 9, 3) := by decide +kernel
theorem dX9_lettersOn_6 : decode cX9_lettersOn 6 = .ok (.iload_n 0, 1) := by decide +kernel
theorem dX9_lettersOn_7 : decode cX9_lettersOn 7 = .ok (.bipush 9, 2) := by decide +kernel
theorem dX9_lettersOn_9 : decode cX9_lettersOn 9 = .ok (.if_icmp .ne 7, 3) := by decide +kernel
theorem dX9_lettersOn_12 : decode cX9_lettersOn 12 = .ok (.iconst 4, 1) := by decide +kernel
theorem dX9_lettersOn_13 : decode cX9_lettersOn 13 = .ok (.goto 4, 3) := by decide +kernel
theorem dX9_lettersOn_16 : decode cX9_lettersOn 16 = .ok (.iconst 3, 1) := by decide +kernel
theorem dX9_lettersOn_17 : decode cX9_lettersOn 17 = .ok (.ireturn, 1) := by decide +kernel
theorem dX9_nextOn_0 : decode cX9_nextOn 0 = .ok (.iload_n 0, 1) := by decide +kernel
theorem dX9_nextOn_1 : decode cX9_nextOn 1 = .ok (.invokestatic 32, 3) := by decide +kernel
theorem dX9_nextOn_4 : decode cX9_nextOn 4 = .ok (.istore_n 1, 1) := by decide +kernel
theorem dX9_nextOn_5 : decode cX9_nextOn 5 = .ok (.iload_n 1, 1) := by decide +kernel
theorem dX9_nextOn_6 : decode cX9_nextOn 6 = .ok (.invokestatic 36, 3) := by decide +kernel
theorem dX9_nextOn_9 : decode cX9_nextOn 9 = .ok (.iload_n 0, 1) := by decide +kernel
theorem dX9_nextOn_10 : decode cX9_nextOn 10 = .ok (.iload_n 1, 1) := by decide +kernel
theorem dX9_nextOn_11 : decode cX9_nextOn 11 = .ok (.invokestatic 36, 3) := by decide +kernel
theorem dX9_nextOn_14 : decode cX9_nextOn 14 = .ok (.isub, 1) := by decide +kernel
theorem dX9_nextOn_15 : decode cX9_nextOn 15 = .ok (.iconst 1, 1) := by decide +kernel
theorem dX9_nextOn_16 : decode cX9_nextOn 16 = .ok (.iadd, 1) := by decide +kernel
theorem dX9_nextOn_17 : decode cX9_nextOn 17 = .ok (.iload_n 1, 1) := by decide +kernel
theorem dX9_nextOn_18 : decode cX9_nextOn 18 = .ok (.invokestatic 39, 3) := by decide +kernel
theorem dX9_nextOn_21 : decode cX9_nextOn 21 = .ok (.irem, 1) := by decide +kernel
theorem dX9_nextOn_22 : decode cX9_nextOn 22 = .ok (.iadd, 1) := by decide +kernel
theorem dX9_nextOn_23 : decode cX9_nextOn 23 = .ok (.ireturn, 1) := by decide +kernel
theorem dX9_at_0 : decode cX9_at 0 = .ok (.bipush 20, 2) := by decide +kernel
theorem dX9_at_2 : decode cX9_at 2 = .ok (.bipush 14, 2) := by decide +kernel
theorem dX9_at_4 : decode cX9_at 4 = .ok (.iload_n 0, 1) := by decide +kernel
theorem dX9_at_5 : decode cX9_at 5 = .ok (.imul, 1) := by decide +kernel
theorem dX9_at_6 : decode cX9_at 6 = .ok (.iadd, 1) := by decide +kernel
theorem dX9_at_7 : decode cX9_at 7 = .ok (.iload_n 1, 1) := by decide +kernel
theorem dX9_at_8 : decode cX9_at 8 = .ok (.iadd, 1) := by decide +kernel
theorem dX9_at_9 : decode cX9_at 9 = .ok (.ireturn, 1) := by decide +kernel
theorem dX9_of_0 : decode cX9_of 0 = .ok (.aload_n 0, 1) := by decide +kernel
theorem dX9_of_1 : decode cX9_of 1 = .ok (.getfield 7, 3) := by decide +kernel
theorem dX9_of_4 : decode cX9_of 4 = .ok (.iload_n 1, 1) := by decide +kernel
theorem dX9_of_5 : decode cX9_of 5 = .ok (.iload_n 2, 1) := by decide +kernel
theorem dX9_of_6 : decode cX9_of 6 = .ok (.invokestatic 42, 3) := by decide +kernel
theorem dX9_of_9 : decode cX9_of 9 = .ok (.iaload, 1) := by decide +kernel
theorem dX9_of_10 : decode cX9_of 10 = .ok (.ireturn, 1) := by decide +kernel
theorem dX9_letterOf_0 : decode cX9_letterOf 0 = .ok (.aload_n 0, 1) := by decide +kernel
theorem dX9_letterOf_1 : decode cX9_letterOf 1 = .ok (.getfield 7, 3) := by decide +kernel
theorem dX9_letterOf_4 : decode cX9_letterOf 4 = .ok (.iload_n 1, 1) := by decide +kernel
theorem dX9_letterOf_5 : decode cX9_letterOf 5 = .ok (.iconst 4, 1) := by decide +kernel
theorem dX9_letterOf_6 : decode cX9_letterOf 6 = .ok (.iload_n 2, 1) := by decide +kernel
theorem dX9_letterOf_7 : decode cX9_letterOf 7 = .ok (.iadd, 1) := by decide +kernel
theorem dX9_letterOf_8 : decode cX9_letterOf 8 = .ok (.invokestatic 42, 3) := by decide +kernel
theorem dX9_letterOf_11 : decode cX9_letterOf 11 = .ok (.iaload, 1) := by decide +kernel
theorem dX9_letterOf_12 : decode cX9_letterOf 12 = .ok (.ireturn, 1) := by decide +kernel
theorem dX9_isWord_0 : decode cX9_isWord 0 = .ok (.iload_n 1, 1) := by decide +kernel
theorem dX9_isWord_1 : decode cX9_isWord 1 = .ok (.i2l, 1) := by decide +kernel
theorem dX9_isWord_2 : decode cX9_isWord 2 = .ok (.lconst 0, 1) := by decide +kernel
theorem dX9_isWord_3 : decode cX9_isWord 3 = .ok (.aload_n 0, 1) := by decide +kernel
theorem dX9_isWord_4 : decode cX9_isWord 4 = .ok (.getfield 7, 3) := by decide +kernel
theorem dX9_isWord_7 : decode cX9_isWord 7 = .ok (.iconst 0, 1) := by decide +kernel
theorem dX9_isWord_8 : decode cX9_isWord 8 = .ok (.iaload, 1) := by decide +kernel
theorem dX9_isWord_9 : decode cX9_isWord 9 = .ok (.i2l, 1) := by decide +kernel
theorem dX9_isWord_10 : decode cX9_isWord 10 = .ok (.lconst 1, 1) := by decide +kernel
theorem dX9_isWord_11 : decode cX9_isWord 11 = .ok (.lsub, 1) := by decide +kernel
theorem dX9_isWord_12 : decode cX9_isWord 12 = .ok (.invokestatic 46, 3) := by decide +kernel
theorem dX9_isWord_15 : decode cX9_isWord 15 = .ok (.ireturn, 1) := by decide +kernel
theorem dX9_compares_0 : decode cX9_compares 0 = .ok (.iconst 0, 1) := by decide +kernel
theorem dX9_compares_1 : decode cX9_compares 1 = .ok (.istore_n 3, 1) := by decide +kernel
theorem dX9_compares_2 : decode cX9_compares 2 = .ok (.iload_n 3, 1) := by decide +kernel
theorem dX9_compares_3 : decode cX9_compares 3 = .ok (.aload_n 0, 1) := by decide +kernel
theorem dX9_compares_4 : decode cX9_compares 4 = .ok (.iload_n 1, 1) := by decide +kernel
theorem dX9_compares_5 : decode cX9_compares 5 = .ok (.iconst 0, 1) := by decide +kernel
theorem dX9_compares_6 : decode cX9_compares 6 = .ok (.invokevirtual 50, 3) := by decide +kernel
theorem dX9_compares_9 : decode cX9_compares 9 = .ok (.if_icmp .ge 48, 3) := by decide +kernel
theorem dX9_compares_12 : decode cX9_compares 12 = .ok (.iload_n 3, 1) := by decide +kernel
theorem dX9_compares_13 : decode cX9_compares 13 = .ok (.aload_n 0, 1) := by decide +kernel
theorem dX9_compares_14 : decode cX9_compares 14 = .ok (.iload_n 2, 1) := by decide +kernel
theorem dX9_compares_15 : decode cX9_compares 15 = .ok (.iconst 0, 1) := by decide +kernel
theorem dX9_compares_16 : decode cX9_compares 16 = .ok (.invokevirtual 50, 3) := by decide +kernel
theorem dX9_compares_19 : decode cX9_compares 19 = .ok (.if_icmp .ge 38, 3) := by decide +kernel
theorem dX9_compares_22 : decode cX9_compares 22 = .ok (.aload_n 0, 1) := by decide +kernel
theorem dX9_compares_23 : decode cX9_compares 23 = .ok (.iload_n 1, 1) := by decide +kernel
theorem dX9_compares_24 : decode cX9_compares 24 = .ok (.iload_n 3, 1) := by decide +kernel
theorem dX9_compares_25 : decode cX9_compares 25 = .ok (.invokevirtual 53, 3) := by decide +kernel
theorem dX9_compares_28 : decode cX9_compares 28 = .ok (.aload_n 0, 1) := by decide +kernel
theorem dX9_compares_29 : decode cX9_compares 29 = .ok (.iload_n 2, 1) := by decide +kernel
theorem dX9_compares_30 : decode cX9_compares 30 = .ok (.iload_n 3, 1) := by decide +kernel
theorem dX9_compares_31 : decode cX9_compares 31 = .ok (.invokevirtual 53, 3) := by decide +kernel
theorem dX9_compares_34 : decode cX9_compares 34 = .ok (.if_icmp .eq 17, 3) := by decide +kernel
theorem dX9_compares_37 : decode cX9_compares 37 = .ok (.aload_n 0, 1) := by decide +kernel
theorem dX9_compares_38 : decode cX9_compares 38 = .ok (.iload_n 1, 1) := by decide +kernel
theorem dX9_compares_39 : decode cX9_compares 39 = .ok (.iload_n 3, 1) := by decide +kernel
theorem dX9_compares_40 : decode cX9_compares 40 = .ok (.invokevirtual 53, 3) := by decide +kernel
theorem dX9_compares_43 : decode cX9_compares 43 = .ok (.aload_n 0, 1) := by decide +kernel
theorem dX9_compares_44 : decode cX9_compares 44 = .ok (.iload_n 2, 1) := by decide +kernel
theorem dX9_compares_45 : decode cX9_compares 45 = .ok (.iload_n 3, 1) := by decide +kernel
theorem dX9_compares_46 : decode cX9_compares 46 = .ok (.invokevirtual 53, 3) := by decide +kernel
theorem dX9_compares_49 : decode cX9_compares 49 = .ok (.isub, 1) := by decide +kernel
theorem dX9_compares_50 : decode cX9_compares 50 = .ok (.ireturn, 1) := by decide +kernel
theorem dX9_compares_51 : decode cX9_compares 51 = .ok (.iinc 3 1, 3) := by decide +kernel
theorem dX9_compares_54 : decode cX9_compares 54 = .ok (.goto (-52), 3) := by decide +kernel
theorem dX9_compares_57 : decode cX9_compares 57 = .ok (.aload_n 0, 1) := by decide +kernel
theorem dX9_compares_58 : decode cX9_compares 58 = .ok (.iload_n 1, 1) := by decide +kernel
theorem dX9_compares_59 : decode cX9_compares 59 = .ok (.iconst 0, 1) := by decide +kernel
theorem dX9_compares_60 : decode cX9_compares 60 = .ok (.invokevirtual 50, 3) := by decide +kernel
theorem dX9_compares_63 : decode cX9_compares 63 = .ok (.aload_n 0, 1) := by decide +kernel
theorem dX9_compares_64 : decode cX9_compares 64 = .ok (.iload_n 2, 1) := by decide +kernel
theorem dX9_compares_65 : decode cX9_compares 65 = .ok (.iconst 0, 1) := by decide +kernel
theorem dX9_compares_66 : decode cX9_compares 66 = .ok (.invokevirtual 50, 3) := by decide +kernel
theorem dX9_compares_69 : decode cX9_compares 69 = .ok (.isub, 1) := by decide +kernel
theorem dX9_compares_70 : decode cX9_compares 70 = .ok (.ireturn, 1) := by decide +kernel
theorem dX9_isAhead_0 : decode cX9_isAhead 0 = .ok (.aload_n 0, 1) := by decide +kernel
theorem dX9_isAhead_1 : decode cX9_isAhead 1 = .ok (.iload_n 1, 1) := by decide +kernel
theorem dX9_isAhead_2 : decode cX9_isAhead 2 = .ok (.iconst 1, 1) := by decide +kernel
theorem dX9_isAhead_3 : decode cX9_isAhead 3 = .ok (.invokevirtual 50, 3) := by decide +kernel
theorem dX9_isAhead_6 : decode cX9_isAhead 6 = .ok (.aload_n 0, 1) := by decide +kernel
theorem dX9_isAhead_7 : decode cX9_isAhead 7 = .ok (.iload_n 2, 1) := by decide +kernel
theorem dX9_isAhead_8 : decode cX9_isAhead 8 = .ok (.iconst 1, 1) := by decide +kernel
theorem dX9_isAhead_9 : decode cX9_isAhead 9 = .ok (.invokevirtual 50, 3) := by decide +kernel
theorem dX9_isAhead_12 : decode cX9_isAhead 12 = .ok (.if_icmp .eq 24, 3) := by decide +kernel
theorem dX9_isAhead_15 : decode cX9_isAhead 15 = .ok (.aload_n 0, 1) := by decide +kernel
theorem dX9_isAhead_16 : decode cX9_isAhead 16 = .ok (.iload_n 1, 1) := by decide +kernel
theorem dX9_isAhead_17 : decode cX9_isAhead 17 = .ok (.iconst 1, 1) := by decide +kernel
theorem dX9_isAhead_18 : decode cX9_isAhead 18 = .ok (.invokevirtual 50, 3) := by decide +kernel
theorem dX9_isAhead_21 : decode cX9_isAhead 21 = .ok (.aload_n 0, 1) := by decide +kernel
theorem dX9_isAhead_22 : decode cX9_isAhead 22 = .ok (.iload_n 2, 1) := by decide +kernel
theorem dX9_isAhead_23 : decode cX9_isAhead 23 = .ok (.iconst 1, 1) := by decide +kernel
theorem dX9_isAhead_24 : decode cX9_isAhead 24 = .ok (.invokevirtual 50, 3) := by decide +kernel
theorem dX9_isAhead_27 : decode cX9_isAhead 27 = .ok (.if_icmp .le 7, 3) := by decide +kernel
theorem dX9_isAhead_30 : decode cX9_isAhead 30 = .ok (.iconst 1, 1) := by decide +kernel
theorem dX9_isAhead_31 : decode cX9_isAhead 31 = .ok (.goto 4, 3) := by decide +kernel
theorem dX9_isAhead_34 : decode cX9_isAhead 34 = .ok (.iconst 0, 1) := by decide +kernel
theorem dX9_isAhead_35 : decode cX9_isAhead 35 = .ok (.ireturn, 1) := by decide +kernel
theorem dX9_isAhead_36 : decode cX9_isAhead 36 = .ok (.aload_n 0, 1) := by decide +kernel
theorem dX9_isAhead_37 : decode cX9_isAhead 37 = .ok (.iload_n 1, 1) := by decide +kernel
theorem dX9_isAhead_38 : decode cX9_isAhead 38 = .ok (.iconst 2, 1) := by decide +kernel
theorem dX9_isAhead_39 : decode cX9_isAhead 39 = .ok (.invokevirtual 50, 3) := by decide +kernel
theorem dX9_isAhead_42 : decode cX9_isAhead 42 = .ok (.aload_n 0, 1) := by decide +kernel
theorem dX9_isAhead_43 : decode cX9_isAhead 43 = .ok (.iload_n 2, 1) := by decide +kernel
theorem dX9_isAhead_44 : decode cX9_isAhead 44 = .ok (.iconst 2, 1) := by decide +kernel
theorem dX9_isAhead_45 : decode cX9_isAhead 45 = .ok (.invokevirtual 50, 3) := by decide +kernel
theorem dX9_isAhead_48 : decode cX9_isAhead 48 = .ok (.if_icmp .eq 26, 3) := by decide +kernel
theorem dX9_isAhead_51 : decode cX9_isAhead 51 = .ok (.aload_n 0, 1) := by decide +kernel
theorem dX9_isAhead_52 : decode cX9_isAhead 52 = .ok (.iload_n 1, 1) := by decide +kernel
theorem dX9_isAhead_53 : decode cX9_isAhead 53 = .ok (.iconst 2, 1) := by decide +kernel
theorem dX9_isAhead_54 : decode cX9_isAhead 54 = .ok (.invokevirtual 50, 3) := by decide +kernel
theorem dX9_isAhead_57 : decode cX9_isAhead 57 = .ok (.aload_n 0, 1) := by decide +kernel
theorem dX9_isAhead_58 : decode cX9_isAhead 58 = .ok (.iload_n 2, 1) := by decide +kernel
theorem dX9_isAhead_59 : decode cX9_isAhead 59 = .ok (.iconst 2, 1) := by decide +kernel
theorem dX9_isAhead_60 : decode cX9_isAhead 60 = .ok (.invokevirtual 50, 3) := by decide +kernel
theorem dX9_isAhead_63 : decode cX9_isAhead 63 = .ok (.if_icmp .le 7, 3) := by decide +kernel
theorem dX9_isAhead_66 : decode cX9_isAhead 66 = .ok (.iconst 1, 1) := by decide +kernel
theorem dX9_isAhead_67 : decode cX9_isAhead 67 = .ok (.goto 21, 3) := by decide +kernel
theorem dX9_isAhead_70 : decode cX9_isAhead 70 = .ok (.iconst 0, 1) := by decide +kernel
theorem dX9_isAhead_71 : decode cX9_isAhead 71 = .ok (.goto 17, 3) := by decide +kernel
theorem dX9_isAhead_74 : decode cX9_isAhead 74 = .ok (.aload_n 0, 1) := by decide +kernel
theorem dX9_isAhead_75 : decode cX9_isAhead 75 = .ok (.iload_n 1, 1) := by decide +kernel
theorem dX9_isAhead_76 : decode cX9_isAhead 76 = .ok (.iload_n 2, 1) := by decide +kernel
theorem dX9_isAhead_77 : decode cX9_isAhead 77 = .ok (.invokevirtual 56, 3) := by decide +kernel
theorem dX9_isAhead_80 : decode cX9_isAhead 80 = .ok (.ifCond .ge 7, 3) := by decide +kernel
theorem dX9_isAhead_83 : decode cX9_isAhead 83 = .ok (.iconst 1, 1) := by decide +kernel
theorem dX9_isAhead_84 : decode cX9_isAhead 84 = .ok (.goto 4, 3) := by decide +kernel
theorem dX9_isAhead_87 : decode cX9_isAhead 87 = .ok (.iconst 0, 1) := by decide +kernel
theorem dX9_isAhead_88 : decode cX9_isAhead 88 = .ok (.ireturn, 1) := by decide +kernel
theorem dX9_rankOf_0 : decode cX9_rankOf 0 = .ok (.iconst 0, 1) := by decide +kernel
theorem dX9_rankOf_1 : decode cX9_rankOf 1 = .ok (.istore_n 2, 1) := by decide +kernel
theorem dX9_rankOf_2 : decode cX9_rankOf 2 = .ok (.iconst 0, 1) := by decide +kernel
theorem dX9_rankOf_3 : decode cX9_rankOf 3 = .ok (.istore_n 3, 1) := by decide +kernel
theorem dX9_rankOf_4 : decode cX9_rankOf 4 = .ok (.iload_n 3, 1) := by decide +kernel
theorem dX9_rankOf_5 : decode cX9_rankOf 5 = .ok (.aload_n 0, 1) := by decide +kernel
theorem dX9_rankOf_6 : decode cX9_rankOf 6 = .ok (.getfield 7, 3) := by decide +kernel
theorem dX9_rankOf_9 : decode cX9_rankOf 9 = .ok (.iconst 0, 1) := by decide +kernel
theorem dX9_rankOf_10 : decode cX9_rankOf 10 = .ok (.iaload, 1) := by decide +kernel
theorem dX9_rankOf_11 : decode cX9_rankOf 11 = .ok (.if_icmp .ge 31, 3) := by decide +kernel
theorem dX9_rankOf_14 : decode cX9_rankOf 14 = .ok (.iload_n 2, 1) := by decide +kernel
theorem dX9_rankOf_15 : decode cX9_rankOf 15 = .ok (.iload_n 3, 1) := by decide +kernel
theorem dX9_rankOf_16 : decode cX9_rankOf 16 = .ok (.iload_n 1, 1) := by decide +kernel
theorem dX9_rankOf_17 : decode cX9_rankOf 17 = .ok (.if_icmp .eq 16, 3) := by decide +kernel
theorem dX9_rankOf_20 : decode cX9_rankOf 20 = .ok (.aload_n 0, 1) := by decide +kernel
theorem dX9_rankOf_21 : decode cX9_rankOf 21 = .ok (.iload_n 3, 1) := by decide +kernel
theorem dX9_rankOf_22 : decode cX9_rankOf 22 = .ok (.iload_n 1, 1) := by decide +kernel
theorem dX9_rankOf_23 : decode cX9_rankOf 23 = .ok (.invokevirtual 59, 3) := by decide +kernel
theorem dX9_rankOf_26 : decode cX9_rankOf 26 = .ok (.ifCond .eq 7, 3) := by decide +kernel
theorem dX9_rankOf_29 : decode cX9_rankOf 29 = .ok (.iconst 1, 1) := by decide +kernel
theorem dX9_rankOf_30 : decode cX9_rankOf 30 = .ok (.goto 4, 3) := by decide +kernel
theorem dX9_rankOf_33 : decode cX9_rankOf 33 = .ok (.iconst 0, 1) := by decide +kernel
theorem dX9_rankOf_34 : decode cX9_rankOf 34 = .ok (.iadd, 1) := by decide +kernel
theorem dX9_rankOf_35 : decode cX9_rankOf 35 = .ok (.istore_n 2, 1) := by decide +kernel
theorem dX9_rankOf_36 : decode cX9_rankOf 36 = .ok (.iinc 3 1, 3) := by decide +kernel
theorem dX9_rankOf_39 : decode cX9_rankOf 39 = .ok (.goto (-35), 3) := by decide +kernel
theorem dX9_rankOf_42 : decode cX9_rankOf 42 = .ok (.iload_n 2, 1) := by decide +kernel
theorem dX9_rankOf_43 : decode cX9_rankOf 43 = .ok (.ireturn, 1) := by decide +kernel
theorem dX9_wordValue_0 : decode cX9_wordValue 0 = .ok (.iload_n 2, 1) := by decide +kernel
theorem dX9_wordValue_1 : decode cX9_wordValue 1 = .ok (.iconst 4, 1) := by decide +kernel
theorem dX9_wordValue_2 : decode cX9_wordValue 2 = .ok (.if_icmp .ne 11, 3) := by decide +kernel
theorem dX9_wordValue_5 : decode cX9_wordValue 5 = .ok (.aload_n 0, 1) := by decide +kernel
theorem dX9_wordValue_6 : decode cX9_wordValue 6 = .ok (.iload_n 1, 1) := by decide +kernel
theorem dX9_wordValue_7 : decode cX9_wordValue 7 = .ok (.invokevirtual 63, 3) := by decide +kernel
theorem dX9_wordValue_10 : decode cX9_wordValue 10 = .ok (.goto 9, 3) := by decide +kernel
theorem dX9_wordValue_13 : decode cX9_wordValue 13 = .ok (.aload_n 0, 1) := by decide +kernel
theorem dX9_wordValue_14 : decode cX9_wordValue 14 = .ok (.iload_n 1, 1) := by decide +kernel
theorem dX9_wordValue_15 : decode cX9_wordValue 15 = .ok (.iload_n 2, 1) := by decide +kernel
theorem dX9_wordValue_16 : decode cX9_wordValue 16 = .ok (.invokevirtual 50, 3) := by decide +kernel
theorem dX9_wordValue_19 : decode cX9_wordValue 19 = .ok (.ireturn, 1) := by decide +kernel
theorem dX9_word_0 : decode cX9_word 0 = .ok (.aload_n 0, 1) := by decide +kernel
theorem dX9_word_1 : decode cX9_word 1 = .ok (.aload_n 0, 1) := by decide +kernel
theorem dX9_word_2 : decode cX9_word 2 = .ok (.iload_n 1, 1) := by decide +kernel
theorem dX9_word_3 : decode cX9_word 3 = .ok (.invokevirtual 66, 3) := by decide +kernel
theorem dX9_word_6 : decode cX9_word 6 = .ok (.iload_n 2, 1) := by decide +kernel
theorem dX9_word_7 : decode cX9_word 7 = .ok (.i2l, 1) := by decide +kernel
theorem dX9_word_8 : decode cX9_word 8 = .ok (.lconst 0, 1) := by decide +kernel
theorem dX9_word_9 : decode cX9_word 9 = .ok (.ldc2_w 70, 3) := by decide +kernel
theorem dX9_word_12 : decode cX9_word 12 = .ok (.invokestatic 46, 3) := by decide +kernel
theorem dX9_word_15 : decode cX9_word 15 = .ok (.invokevirtual 72, 3) := by decide +kernel
theorem dX9_word_18 : decode cX9_word 18 = .ok (.ifCond .eq 12, 3) := by decide +kernel
theorem dX9_word_21 : decode cX9_word 21 = .ok (.aload_n 0, 1) := by decide +kernel
theorem dX9_word_22 : decode cX9_word 22 = .ok (.iload_n 1, 1) := by decide +kernel
theorem dX9_word_23 : decode cX9_word 23 = .ok (.iload_n 2, 1) := by decide +kernel
theorem dX9_word_24 : decode cX9_word 24 = .ok (.invokevirtual 76, 3) := by decide +kernel
theorem dX9_word_27 : decode cX9_word 27 = .ok (.goto 4, 3) := by decide +kernel
theorem dX9_word_30 : decode cX9_word 30 = .ok (.iconst 0, 1) := by decide +kernel
theorem dX9_word_31 : decode cX9_word 31 = .ok (.ireturn, 1) := by decide +kernel
theorem dX9_letter_0 : decode cX9_letter 0 = .ok (.aload_n 0, 1) := by decide +kernel
theorem dX9_letter_1 : decode cX9_letter 1 = .ok (.aload_n 0, 1) := by decide +kernel
theorem dX9_letter_2 : decode cX9_letter 2 = .ok (.iload_n 1, 1) := by decide +kernel
theorem dX9_letter_3 : decode cX9_letter 3 = .ok (.invokevirtual 66, 3) := by decide +kernel
theorem dX9_letter_6 : decode cX9_letter 6 = .ok (.ifCond .eq 25, 3) := by decide +kernel
theorem dX9_letter_9 : decode cX9_letter 9 = .ok (.iload_n 2, 1) := by decide +kernel
theorem dX9_letter_10 : decode cX9_letter 10 = .ok (.i2l, 1) := by decide +kernel
theorem dX9_letter_11 : decode cX9_letter 11 = .ok (.lconst 0, 1) := by decide +kernel
theorem dX9_letter_12 : decode cX9_letter 12 = .ok (.aload_n 0, 1) := by decide +kernel
theorem dX9_letter_13 : decode cX9_letter 13 = .ok (.iload_n 1, 1) := by decide +kernel
theorem dX9_letter_14 : decode cX9_letter 14 = .ok (.iconst 0, 1) := by decide +kernel
theorem dX9_letter_15 : decode cX9_letter 15 = .ok (.invokevirtual 50, 3) := by decide +kernel
theorem dX9_letter_18 : decode cX9_letter 18 = .ok (.i2l, 1) := by decide +kernel
theorem dX9_letter_19 : decode cX9_letter 19 = .ok (.lconst 1, 1) := by decide +kernel
theorem dX9_letter_20 : decode cX9_letter 20 = .ok (.lsub, 1) := by decide +kernel
theorem dX9_letter_21 : decode cX9_letter 21 = .ok (.invokestatic 46, 3) := by decide +kernel
theorem dX9_letter_24 : decode cX9_letter 24 = .ok (.ifCond .eq 7, 3) := by decide +kernel
theorem dX9_letter_27 : decode cX9_letter 27 = .ok (.iconst 1, 1) := by decide +kernel
theorem dX9_letter_28 : decode cX9_letter 28 = .ok (.goto 4, 3) := by decide +kernel
theorem dX9_letter_31 : decode cX9_letter 31 = .ok (.iconst 0, 1) := by decide +kernel
theorem dX9_letter_32 : decode cX9_letter 32 = .ok (.iconst 1, 1) := by decide +kernel
theorem dX9_letter_33 : decode cX9_letter 33 = .ok (.invokevirtual 72, 3) := by decide +kernel
theorem dX9_letter_36 : decode cX9_letter 36 = .ok (.ifCond .eq 12, 3) := by decide +kernel
theorem dX9_letter_39 : decode cX9_letter 39 = .ok (.aload_n 0, 1) := by decide +kernel
theorem dX9_letter_40 : decode cX9_letter 40 = .ok (.iload_n 1, 1) := by decide +kernel
theorem dX9_letter_41 : decode cX9_letter 41 = .ok (.iload_n 2, 1) := by decide +kernel
theorem dX9_letter_42 : decode cX9_letter 42 = .ok (.invokevirtual 53, 3) := by decide +kernel
theorem dX9_letter_45 : decode cX9_letter 45 = .ok (.goto 4, 3) := by decide +kernel
theorem dX9_letter_48 : decode cX9_letter 48 = .ok (.iconst 0, 1) := by decide +kernel
theorem dX9_letter_49 : decode cX9_letter 49 = .ok (.ireturn, 1) := by decide +kernel
theorem dX9_leaves_0 : decode cX9_leaves 0 = .ok (.aload_n 0, 1) := by decide +kernel
theorem dX9_leaves_1 : decode cX9_leaves 1 = .ok (.getfield 7, 3) := by decide +kernel
theorem dX9_leaves_4 : decode cX9_leaves 4 = .ok (.iconst 0, 1) := by decide +kernel
theorem dX9_leaves_5 : decode cX9_leaves 5 = .ok (.dup2, 1) := by decide +kernel
theorem dX9_leaves_6 : decode cX9_leaves 6 = .ok (.iaload, 1) := by decide +kernel
theorem dX9_leaves_7 : decode cX9_leaves 7 = .ok (.iconst 1, 1) := by decide +kernel
theorem dX9_leaves_8 : decode cX9_leaves 8 = .ok (.isub, 1) := by decide +kernel
theorem dX9_leaves_9 : decode cX9_leaves 9 = .ok (.iastore, 1) := by decide +kernel
theorem dX9_leaves_10 : decode cX9_leaves 10 = .ok (.iload_n 1, 1) := by decide +kernel
theorem dX9_leaves_11 : decode cX9_leaves 11 = .ok (.iconst 0, 1) := by decide +kernel
theorem dX9_leaves_12 : decode cX9_leaves 12 = .ok (.invokestatic 42, 3) := by decide +kernel
theorem dX9_leaves_15 : decode cX9_leaves 15 = .ok (.istore_n 2, 1) := by decide +kernel
theorem dX9_leaves_16 : decode cX9_leaves 16 = .ok (.iload_n 2, 1) := by decide +kernel
theorem dX9_leaves_17 : decode cX9_leaves 17 = .ok (.aload_n 0, 1) := by decide +kernel
theorem dX9_leaves_18 : decode cX9_leaves 18 = .ok (.getfield 7, 3) := by decide +kernel
theorem dX9_leaves_21 : decode cX9_leaves 21 = .ok (.iconst 0, 1) := by decide +kernel
theorem dX9_leaves_22 : decode cX9_leaves 22 = .ok (.iaload, 1) := by decide +kernel
theorem dX9_leaves_23 : decode cX9_leaves 23 = .ok (.iconst 0, 1) := by decide +kernel
theorem dX9_leaves_24 : decode cX9_leaves 24 = .ok (.invokestatic 42, 3) := by decide +kernel
theorem dX9_leaves_27 : decode cX9_leaves 27 = .ok (.if_icmp .ge 24, 3) := by decide +kernel
theorem dX9_leaves_30 : decode cX9_leaves 30 = .ok (.aload_n 0, 1) := by decide +kernel
theorem dX9_leaves_31 : decode cX9_leaves 31 = .ok (.getfield 7, 3) := by decide +kernel
theorem dX9_leaves_34 : decode cX9_leaves 34 = .ok (.iload_n 2, 1) := by decide +kernel
theorem dX9_leaves_35 : decode cX9_leaves 35 = .ok (.aload_n 0, 1) := by decide +kernel
theorem dX9_leaves_36 : decode cX9_leaves 36 = .ok (.getfield 7, 3) := by decide +kernel
theorem dX9_leaves_39 : decode cX9_leaves 39 = .ok (.iload_n 2, 1) := by decide +kernel
theorem dX9_leaves_40 : decode cX9_leaves 40 = .ok (.bipush 14, 2) := by decide +kernel
theorem dX9_leaves_42 : decode cX9_leaves 42 = .ok (.iadd, 1) := by decide +kernel
theorem dX9_leaves_43 : decode cX9_leaves 43 = .ok (.iaload, 1) := by decide +kernel
theorem dX9_leaves_44 : decode cX9_leaves 44 = .ok (.iastore, 1) := by decide +kernel
theorem dX9_leaves_45 : decode cX9_leaves 45 = .ok (.iinc 2 1, 3) := by decide +kernel
theorem dX9_leaves_48 : decode cX9_leaves 48 = .ok (.goto (-32), 3) := by decide +kernel
theorem dX9_leaves_51 : decode cX9_leaves 51 = .ok (.return_, 1) := by decide +kernel
theorem dX9_fits_0 : decode cX9_fits 0 = .ok (.aload_n 0, 1) := by decide +kernel
theorem dX9_fits_1 : decode cX9_fits 1 = .ok (.getfield 7, 3) := by decide +kernel
theorem dX9_fits_4 : decode cX9_fits 4 = .ok (.bipush 10, 2) := by decide +kernel
theorem dX9_fits_6 : decode cX9_fits 6 = .ok (.iload_n 2, 1) := by decide +kernel
theorem dX9_fits_7 : decode cX9_fits 7 = .ok (.iadd, 1) := by decide +kernel
theorem dX9_fits_8 : decode cX9_fits 8 = .ok (.iaload, 1) := by decide +kernel
theorem dX9_fits_9 : decode cX9_fits 9 = .ok (.istore_n 3, 1) := by decide +kernel
theorem dX9_fits_10 : decode cX9_fits 10 = .ok (.aload_n 0, 1) := by decide +kernel
theorem dX9_fits_11 : decode cX9_fits 11 = .ok (.iload_n 1, 1) := by decide +kernel
theorem dX9_fits_12 : decode cX9_fits 12 = .ok (.iload_n 2, 1) := by decide +kernel
theorem dX9_fits_13 : decode cX9_fits 13 = .ok (.invokevirtual 53, 3) := by decide +kernel
theorem dX9_fits_16 : decode cX9_fits 16 = .ok (.istore 4, 2) := by decide +kernel
theorem dX9_fits_18 : decode cX9_fits 18 = .ok (.iload_n 3, 1) := by decide +kernel
theorem dX9_fits_19 : decode cX9_fits 19 = .ok (.bipush 100, 2) := by decide +kernel
theorem dX9_fits_21 : decode cX9_fits 21 = .ok (.if_icmp .lt 20, 3) := by decide +kernel
theorem dX9_fits_24 : decode cX9_fits 24 = .ok (.iload_n 3, 1) := by decide +kernel
theorem dX9_fits_25 : decode cX9_fits 25 = .ok (.bipush 100, 2) := by decide +kernel
theorem dX9_fits_27 : decode cX9_fits 27 = .ok (.isub, 1) := by decide +kernel
theorem dX9_fits_28 : decode cX9_fits 28 = .ok (.iload 4, 2) := by decide +kernel
theorem dX9_fits_30 : decode cX9_fits 30 = .ok (.if_icmp .ne 7, 3) := by decide +kernel
theorem dX9_fits_33 : decode cX9_fits 33 = .ok (.iconst 1, 1) := by decide +kernel
theorem dX9_fits_34 : decode cX9_fits 34 = .ok (.goto 21, 3) := by decide +kernel
theorem dX9_fits_37 : decode cX9_fits 37 = .ok (.iconst 0, 1) := by decide +kernel
theorem dX9_fits_38 : decode cX9_fits 38 = .ok (.goto 17, 3) := by decide +kernel
theorem dX9_fits_41 : decode cX9_fits 41 = .ok (.iload_n 3, 1) := by decide +kernel
theorem dX9_fits_42 : decode cX9_fits 42 = .ok (.iload 4, 2) := by decide +kernel
theorem dX9_fits_44 : decode cX9_fits 44 = .ok (.invokestatic 32, 3) := by decide +kernel
theorem dX9_fits_47 : decode cX9_fits 47 = .ok (.if_icmp .ne 7, 3) := by decide +kernel
theorem dX9_fits_50 : decode cX9_fits 50 = .ok (.iconst 1, 1) := by decide +kernel
theorem dX9_fits_51 : decode cX9_fits 51 = .ok (.goto 4, 3) := by decide +kernel
theorem dX9_fits_54 : decode cX9_fits 54 = .ok (.iconst 0, 1) := by decide +kernel
theorem dX9_fits_55 : decode cX9_fits 55 = .ok (.ireturn, 1) := by decide +kernel
theorem dX9_groupOf_0 : decode cX9_groupOf 0 = .ok (.aload_n 0, 1) := by decide +kernel
theorem dX9_groupOf_1 : decode cX9_groupOf 1 = .ok (.getfield 7, 3) := by decide +kernel
theorem dX9_groupOf_4 : decode cX9_groupOf 4 = .ok (.bipush 6, 2) := by decide +kernel
theorem dX9_groupOf_6 : decode cX9_groupOf 6 = .ok (.iaload, 1) := by decide +kernel
theorem dX9_groupOf_7 : decode cX9_groupOf 7 = .ok (.istore_n 2, 1) := by decide +kernel
theorem dX9_groupOf_8 : decode cX9_groupOf 8 = .ok (.iload_n 2, 1) := by decide +kernel
theorem dX9_groupOf_9 : decode cX9_groupOf 9 = .ok (.ifCond .le 37, 3) := by decide +kernel
theorem dX9_groupOf_12 : decode cX9_groupOf 12 = .ok (.aload_n 0, 1) := by decide +kernel
theorem dX9_groupOf_13 : decode cX9_groupOf 13 = .ok (.iload_n 1, 1) := by decide +kernel
theorem dX9_groupOf_14 : decode cX9_groupOf 14 = .ok (.iconst 0, 1) := by decide +kernel
theorem dX9_groupOf_15 : decode cX9_groupOf 15 = .ok (.invokevirtual 50, 3) := by decide +kernel
theorem dX9_groupOf_18 : decode cX9_groupOf 18 = .ok (.iload_n 2, 1) := by decide +kernel
theorem dX9_groupOf_19 : decode cX9_groupOf 19 = .ok (.if_icmp .eq 23, 3) := by decide +kernel
theorem dX9_groupOf_22 : decode cX9_groupOf 22 = .ok (.aload_n 0, 1) := by decide +kernel
theorem dX9_groupOf_23 : decode cX9_groupOf 23 = .ok (.getfield 7, 3) := by decide +kernel
theorem dX9_groupOf_26 : decode cX9_groupOf 26 = .ok (.iconst 3, 1) := by decide +kernel
theorem dX9_groupOf_27 : decode cX9_groupOf 27 = .ok (.iaload, 1) := by decide +kernel
theorem dX9_groupOf_28 : decode cX9_groupOf 28 = .ok (.iconst 1, 1) := by decide +kernel
theorem dX9_groupOf_29 : decode cX9_groupOf 29 = .ok (.if_icmp .ne 17, 3) := by decide +kernel
theorem dX9_groupOf_32 : decode cX9_groupOf 32 = .ok (.aload_n 0, 1) := by decide +kernel
theorem dX9_groupOf_33 : decode cX9_groupOf 33 = .ok (.iload_n 1, 1) := by decide +kernel
theorem dX9_groupOf_34 : decode cX9_groupOf 34 = .ok (.iconst 0, 1) := by decide +kernel
theorem dX9_groupOf_35 : decode cX9_groupOf 35 = .ok (.invokevirtual 50, 3) := by decide +kernel
theorem dX9_groupOf_38 : decode cX9_groupOf 38 = .ok (.iload_n 2, 1) := by decide +kernel
theorem dX9_groupOf_39 : decode cX9_groupOf 39 = .ok (.if_icmp .le 7, 3) := by decide +kernel
theorem dX9_groupOf_42 : decode cX9_groupOf 42 = .ok (.iconst 1, 1) := by decide +kernel
theorem dX9_groupOf_43 : decode cX9_groupOf 43 = .ok (.goto 4, 3) := by decide +kernel
theorem dX9_groupOf_46 : decode cX9_groupOf 46 = .ok (.iconst 0, 1) := by decide +kernel
theorem dX9_groupOf_47 : decode cX9_groupOf 47 = .ok (.istore_n 3, 1) := by decide +kernel
theorem dX9_groupOf_48 : decode cX9_groupOf 48 = .ok (.iconst 0, 1) := by decide +kernel
theorem dX9_groupOf_49 : decode cX9_groupOf 49 = .ok (.istore 4, 2) := by decide +kernel
theorem dX9_groupOf_51 : decode cX9_groupOf 51 = .ok (.iload 4, 2) := by decide +kernel
theorem dX9_groupOf_53 : decode cX9_groupOf 53 = .ok (.iload_n 2, 1) := by decide +kernel
theorem dX9_groupOf_54 : decode cX9_groupOf 54 = .ok (.if_icmp .ge 21, 3) := by decide +kernel
theorem dX9_groupOf_57 : decode cX9_groupOf 57 = .ok (.iload_n 3, 1) := by decide +kernel
theorem dX9_groupOf_58 : decode cX9_groupOf 58 = .ok (.ifCond .eq 17, 3) := by decide +kernel
theorem dX9_groupOf_61 : decode cX9_groupOf 61 = .ok (.aload_n 0, 1) := by decide +kernel
theorem dX9_groupOf_62 : decode cX9_groupOf 62 = .ok (.iload_n 1, 1) := by decide +kernel
theorem dX9_groupOf_63 : decode cX9_groupOf 63 = .ok (.iload 4, 2) := by decide +kernel
theorem dX9_groupOf_65 : decode cX9_groupOf 65 = .ok (.invokevirtual 79, 3) := by decide +kernel
theorem dX9_groupOf_68 : decode cX9_groupOf 68 = .ok (.istore_n 3, 1) := by decide +kernel
theorem dX9_groupOf_69 : decode cX9_groupOf 69 = .ok (.iinc 4 1, 3) := by decide +kernel
theorem dX9_groupOf_72 : decode cX9_groupOf 72 = .ok (.goto (-21), 3) := by decide +kernel
theorem dX9_groupOf_75 : decode cX9_groupOf 75 = .ok (.iload_n 3, 1) := by decide +kernel
theorem dX9_groupOf_76 : decode cX9_groupOf 76 = .ok (.ifCond .ne 7, 3) := by decide +kernel
theorem dX9_groupOf_79 : decode cX9_groupOf 79 = .ok (.iconst (-1), 1) := by decide +kernel
theorem dX9_groupOf_80 : decode cX9_groupOf 80 = .ok (.goto 18, 3) := by decide +kernel
theorem dX9_groupOf_83 : decode cX9_groupOf 83 = .ok (.aload_n 0, 1) := by decide +kernel
theorem dX9_groupOf_84 : decode cX9_groupOf 84 = .ok (.iload_n 1, 1) := by decide +kernel
theorem dX9_groupOf_85 : decode cX9_groupOf 85 = .ok (.iconst 0, 1) := by decide +kernel
theorem dX9_groupOf_86 : decode cX9_groupOf 86 = .ok (.invokevirtual 50, 3) := by decide +kernel
theorem dX9_groupOf_89 : decode cX9_groupOf 89 = .ok (.iload_n 2, 1) := by decide +kernel
theorem dX9_groupOf_90 : decode cX9_groupOf 90 = .ok (.if_icmp .ne 7, 3) := by decide +kernel
theorem dX9_groupOf_93 : decode cX9_groupOf 93 = .ok (.iconst 0, 1) := by decide +kernel
theorem dX9_groupOf_94 : decode cX9_groupOf 94 = .ok (.goto 4, 3) := by decide +kernel
theorem dX9_groupOf_97 : decode cX9_groupOf 97 = .ok (.iconst 1, 1) := by decide +kernel
theorem dX9_groupOf_98 : decode cX9_groupOf 98 = .ok (.ireturn, 1) := by decide +kernel
theorem dX9_candidates_0 : decode cX9_candidates 0 = .ok (.iconst 0, 1) := by decide +kernel
theorem dX9_candidates_1 : decode cX9_candidates 1 = .ok (.istore_n 1, 1) := by decide +kernel
theorem dX9_candidates_2 : decode cX9_candidates 2 = .ok (.iconst 0, 1) := by decide +kernel
theorem dX9_candidates_3 : decode cX9_candidates 3 = .ok (.istore_n 2, 1) := by decide +kernel
theorem dX9_candidates_4 : decode cX9_candidates 4 = .ok (.iload_n 2, 1) := by decide +kernel
theorem dX9_candidates_5 : decode cX9_candidates 5 = .ok (.aload_n 0, 1) := by decide +kernel
theorem dX9_candidates_6 : decode cX9_candidates 6 = .ok (.getfield 7, 3) := by decide +kernel
theorem dX9_candidates_9 : decode cX9_candidates 9 = .ok (.iconst 0, 1) := by decide +kernel
theorem dX9_candidates_10 : decode cX9_candidates 10 = .ok (.iaload, 1) := by decide +kernel
theorem dX9_candidates_11 : decode cX9_candidates 11 = .ok (.if_icmp .ge 26, 3) := by decide +kernel
theorem dX9_candidates_14 : decode cX9_candidates 14 = .ok (.iload_n 1, 1) := by decide +kernel
theorem dX9_candidates_15 : decode cX9_candidates 15 = .ok (.aload_n 0, 1) := by decide +kernel
theorem dX9_candidates_16 : decode cX9_candidates 16 = .ok (.iload_n 2, 1) := by decide +kernel
theorem dX9_candidates_17 : decode cX9_candidates 17 = .ok (.invokevirtual 82, 3) := by decide +kernel
theorem dX9_candidates_20 : decode cX9_candidates 20 = .ok (.iconst (-1), 1) := by decide +kernel
theorem dX9_candidates_21 : decode cX9_candidates 21 = .ok (.if_icmp .eq 7, 3) := by decide +kernel
theorem dX9_candidates_24 : decode cX9_candidates 24 = .ok (.iconst 1, 1) := by decide +kernel
theorem dX9_candidates_25 : decode cX9_candidates 25 = .ok (.goto 4, 3) := by decide +kernel
theorem dX9_candidates_28 : decode cX9_candidates 28 = .ok (.iconst 0, 1) := by decide +kernel
theorem dX9_candidates_29 : decode cX9_candidates 29 = .ok (.iadd, 1) := by decide +kernel
theorem dX9_candidates_30 : decode cX9_candidates 30 = .ok (.istore_n 1, 1) := by decide +kernel
theorem dX9_candidates_31 : decode cX9_candidates 31 = .ok (.iinc 2 1, 3) := by decide +kernel
theorem dX9_candidates_34 : decode cX9_candidates 34 = .ok (.goto (-30), 3) := by decide +kernel
theorem dX9_candidates_37 : decode cX9_candidates 37 = .ok (.iload_n 1, 1) := by decide +kernel
theorem dX9_candidates_38 : decode cX9_candidates 38 = .ok (.ireturn, 1) := by decide +kernel
theorem dX9_candidateAt_0 : decode cX9_candidateAt 0 = .ok (.iconst 0, 1) := by decide +kernel
theorem dX9_candidateAt_1 : decode cX9_candidateAt 1 = .ok (.istore_n 2, 1) := by decide +kernel
theorem dX9_candidateAt_2 : decode cX9_candidateAt 2 = .ok (.iload_n 2, 1) := by decide +kernel
theorem dX9_candidateAt_3 : decode cX9_candidateAt 3 = .ok (.aload_n 0, 1) := by decide +kernel
theorem dX9_candidateAt_4 : decode cX9_candidateAt 4 = .ok (.getfield 7, 3) := by decide +kernel
theorem dX9_candidateAt_7 : decode cX9_candidateAt 7 = .ok (.iconst 0, 1) := by decide +kernel
theorem dX9_candidateAt_8 : decode cX9_candidateAt 8 = .ok (.iaload, 1) := by decide +kernel
theorem dX9_candidateAt_9 : decode cX9_candidateAt 9 = .ok (.if_icmp .ge 103, 3) := by decide +kernel
theorem dX9_candidateAt_12 : decode cX9_candidateAt 12 = .ok (.aload_n 0, 1) := by decide +kernel
theorem dX9_candidateAt_13 : decode cX9_candidateAt 13 = .ok (.iload_n 2, 1) := by decide +kernel
theorem dX9_candidateAt_14 : decode cX9_candidateAt 14 = .ok (.invokevirtual 82, 3) := by decide +kernel
theorem dX9_candidateAt_17 : decode cX9_candidateAt 17 = .ok (.istore_n 3, 1) := by decide +kernel
theorem dX9_candidateAt_18 : decode cX9_candidateAt 18 = .ok (.iload_n 3, 1) := by decide +kernel
theorem dX9_candidateAt_19 : decode cX9_candidateAt 19 = .ok (.iconst (-1), 1) := by decide +kernel
theorem dX9_candidateAt_20 : decode cX9_candidateAt 20 = .ok (.if_icmp .eq 86, 3) := by decide +kernel
theorem dX9_candidateAt_23 : decode cX9_candidateAt 23 = .ok (.iconst 0, 1) := by decide +kernel
theorem dX9_candidateAt_24 : decode cX9_candidateAt 24 = .ok (.istore 4, 2) := by decide +kernel
theorem dX9_candidateAt_26 : decode cX9_candidateAt 26 = .ok (.iconst 0, 1) := by decide +kernel
theorem dX9_candidateAt_27 : decode cX9_candidateAt 27 = .ok (.istore 5, 2) := by decide +kernel
theorem dX9_candidateAt_29 : decode cX9_candidateAt 29 = .ok (.iload 5, 2) := by decide +kernel
theorem dX9_candidateAt_31 : decode cX9_candidateAt 31 = .ok (.aload_n 0, 1) := by decide +kernel
theorem dX9_candidateAt_32 : decode cX9_candidateAt 32 = .ok (.getfield 7, 3) := by decide +kernel
theorem dX9_candidateAt_35 : decode cX9_candidateAt 35 = .ok (.iconst 0, 1) := by decide +kernel
theorem dX9_candidateAt_36 : decode cX9_candidateAt 36 = .ok (.iaload, 1) := by decide +kernel
theorem dX9_candidateAt_37 : decode cX9_candidateAt 37 = .ok (.if_icmp .ge 61, 3) := by decide +kernel
theorem dX9_candidateAt_40 : decode cX9_candidateAt 40 = .ok (.aload_n 0, 1) := by decide +kernel
theorem dX9_candidateAt_41 : decode cX9_candidateAt 41 = .ok (.iload 5, 2) := by decide +kernel
theorem dX9_candidateAt_43 : decode cX9_candidateAt 43 = .ok (.invokevirtual 82, 3) := by decide +kernel
theorem dX9_candidateAt_46 : decode cX9_candidateAt 46 = .ok (.istore 6, 2) := by decide +kernel
theorem dX9_candidateAt_48 : decode cX9_candidateAt 48 = .ok (.iload 4, 2) := by decide +kernel
theorem dX9_candidateAt_50 : decode cX9_candidateAt 50 = .ok (.iload 6, 2) := by decide +kernel
theorem dX9_candidateAt_52 : decode cX9_candidateAt 52 = .ok (.iconst (-1), 1) := by decide +kernel
theorem dX9_candidateAt_53 : decode cX9_candidateAt 53 = .ok (.if_icmp .eq 35, 3) := by decide +kernel
theorem dX9_candidateAt_56 : decode cX9_candidateAt 56 = .ok (.iload 6, 2) := by decide +kernel
theorem dX9_candidateAt_58 : decode cX9_candidateAt 58 = .ok (.iload_n 3, 1) := by decide +kernel
theorem dX9_candidateAt_59 : decode cX9_candidateAt 59 = .ok (.if_icmp .lt 25, 3) := by decide +kernel
theorem dX9_candidateAt_62 : decode cX9_candidateAt 62 = .ok (.iload 6, 2) := by decide +kernel
theorem dX9_candidateAt_64 : decode cX9_candidateAt 64 = .ok (.iload_n 3, 1) := by decide +kernel
theorem dX9_candidateAt_65 : decode cX9_candidateAt 65 = .ok (.if_icmp .ne 23, 3) := by decide +kernel
theorem dX9_candidateAt_68 : decode cX9_candidateAt 68 = .ok (.iload 5, 2) := by decide +kernel
theorem dX9_candidateAt_70 : decode cX9_candidateAt 70 = .ok (.iload_n 2, 1) := by decide +kernel
theorem dX9_candidateAt_71 : decode cX9_candidateAt 71 = .ok (.if_icmp .eq 17, 3) := by decide +kernel
theorem dX9_candidateAt_74 : decode cX9_candidateAt 74 = .ok (.aload_n 0, 1) := by decide +kernel
theorem dX9_candidateAt_75 : decode cX9_candidateAt 75 = .ok (.iload 5, 2) := by decide +kernel
theorem dX9_candidateAt_77 : decode cX9_candidateAt 77 = .ok (.iload_n 2, 1) := by decide +kernel
theorem dX9_candidateAt_78 : decode cX9_candidateAt 78 = .ok (.invokevirtual 59, 3) := by decide +kernel
theorem dX9_candidateAt_81 : decode cX9_candidateAt 81 = .ok (.ifCond .eq 7, 3) := by decide +kernel
theorem dX9_candidateAt_84 : decode cX9_candidateAt 84 = .ok (.iconst 1, 1) := by decide +kernel
theorem dX9_candidateAt_85 : decode cX9_candidateAt 85 = .ok (.goto 4, 3) := by decide +kernel
theorem dX9_candidateAt_88 : decode cX9_candidateAt 88 = .ok (.iconst 0, 1) := by decide +kernel
theorem dX9_candidateAt_89 : decode cX9_candidateAt 89 = .ok (.iadd, 1) := by decide +kernel
theorem dX9_candidateAt_90 : decode cX9_candidateAt 90 = .ok (.istore 4, 2) := by decide +kernel
theorem dX9_candidateAt_92 : decode cX9_candidateAt 92 = .ok (.iinc 5 1, 3) := by decide +kernel
theorem dX9_candidateAt_95 : decode cX9_candidateAt 95 = .ok (.goto (-66), 3) := by decide +kernel
theorem dX9_candidateAt_98 : decode cX9_candidateAt 98 = .ok (.iload 4, 2) := by decide +kernel
theorem dX9_candidateAt_100 : decode cX9_candidateAt 100 = .ok (.iload_n 1, 1) := by decide +kernel
theorem dX9_candidateAt_101 : decode cX9_candidateAt 101 = .ok (.if_icmp .ne 5, 3) := by decide +kernel
theorem dX9_candidateAt_104 : decode cX9_candidateAt 104 = .ok (.iload_n 2, 1) := by decide +kernel
theorem dX9_candidateAt_105 : decode cX9_candidateAt 105 = .ok (.ireturn, 1) := by decide +kernel
theorem dX9_candidateAt_106 : decode cX9_candidateAt 106 = .ok (.iinc 2 1, 3) := by decide +kernel
theorem dX9_candidateAt_109 : decode cX9_candidateAt 109 = .ok (.goto (-107), 3) := by decide +kernel
theorem dX9_candidateAt_112 : decode cX9_candidateAt 112 = .ok (.iconst (-1), 1) := by decide +kernel
theorem dX9_candidateAt_113 : decode cX9_candidateAt 113 = .ok (.ireturn, 1) := by decide +kernel
theorem dX9_candidate_0 : decode cX9_candidate 0 = .ok (.aload_n 0, 1) := by decide +kernel
theorem dX9_candidate_1 : decode cX9_candidate 1 = .ok (.iload_n 1, 1) := by decide +kernel
theorem dX9_candidate_2 : decode cX9_candidate 2 = .ok (.i2l, 1) := by decide +kernel
theorem dX9_candidate_3 : decode cX9_candidate 3 = .ok (.lconst 0, 1) := by decide +kernel
theorem dX9_candidate_4 : decode cX9_candidate 4 = .ok (.aload_n 0, 1) := by decide +kernel
theorem dX9_candidate_5 : decode cX9_candidate 5 = .ok (.invokevirtual 85, 3) := by decide +kernel
theorem dX9_candidate_8 : decode cX9_candidate 8 = .ok (.i2l, 1) := by decide +kernel
theorem dX9_candidate_9 : decode cX9_candidate 9 = .ok (.lconst 1, 1) := by decide +kernel
theorem dX9_candidate_10 : decode cX9_candidate 10 = .ok (.lsub, 1) := by decide +kernel
theorem dX9_candidate_11 : decode cX9_candidate 11 = .ok (.invokestatic 46, 3) := by decide +kernel
theorem dX9_candidate_14 : decode cX9_candidate 14 = .ok (.iconst 1, 1) := by decide +kernel
theorem dX9_candidate_15 : decode cX9_candidate 15 = .ok (.invokevirtual 72, 3) := by decide +kernel
theorem dX9_candidate_18 : decode cX9_candidate 18 = .ok (.ifCond .eq 11, 3) := by decide +kernel
theorem dX9_candidate_21 : decode cX9_candidate 21 = .ok (.aload_n 0, 1) := by decide +kernel
theorem dX9_candidate_22 : decode cX9_candidate 22 = .ok (.iload_n 1, 1) := by decide +kernel
theorem dX9_candidate_23 : decode cX9_candidate 23 = .ok (.invokevirtual 89, 3) := by decide +kernel
theorem dX9_candidate_26 : decode cX9_candidate 26 = .ok (.goto 4, 3) := by decide +kernel
theorem dX9_candidate_29 : decode cX9_candidate 29 = .ok (.iconst 0, 1) := by decide +kernel
theorem dX9_candidate_30 : decode cX9_candidate 30 = .ok (.ireturn, 1) := by decide +kernel
theorem dX9_laysDisplay_0 : decode cX9_laysDisplay 0 = .ok (.aload_n 0, 1) := by decide +kernel
theorem dX9_laysDisplay_1 : decode cX9_laysDisplay 1 = .ok (.getfield 7, 3) := by decide +kernel
theorem dX9_laysDisplay_4 : decode cX9_laysDisplay 4 = .ok (.iconst 4, 1) := by decide +kernel
theorem dX9_laysDisplay_5 : decode cX9_laysDisplay 5 = .ok (.iaload, 1) := by decide +kernel
theorem dX9_laysDisplay_6 : decode cX9_laysDisplay 6 = .ok (.ifCond .ne 14, 3) := by decide +kernel
theorem dX9_laysDisplay_9 : decode cX9_laysDisplay 9 = .ok (.aload_n 0, 1) := by decide +kernel
theorem dX9_laysDisplay_10 : decode cX9_laysDisplay 10 = .ok (.invokevirtual 85, 3) := by decide +kernel
theorem dX9_laysDisplay_13 : decode cX9_laysDisplay 13 = .ok (.ifCond .le 7, 3) := by decide +kernel
theorem dX9_laysDisplay_16 : decode cX9_laysDisplay 16 = .ok (.iconst 1, 1) := by decide +kernel
theorem dX9_laysDisplay_17 : decode cX9_laysDisplay 17 = .ok (.goto 4, 3) := by decide +kernel
theorem dX9_laysDisplay_20 : decode cX9_laysDisplay 20 = .ok (.iconst 0, 1) := by decide +kernel
theorem dX9_laysDisplay_21 : decode cX9_laysDisplay 21 = .ok (.istore_n 1, 1) := by decide +kernel
theorem dX9_laysDisplay_22 : decode cX9_laysDisplay 22 = .ok (.iload_n 1, 1) := by decide +kernel
theorem dX9_laysDisplay_23 : decode cX9_laysDisplay 23 = .ok (.ifCond .eq 17, 3) := by decide +kernel
theorem dX9_laysDisplay_26 : decode cX9_laysDisplay 26 = .ok (.aload_n 0, 1) := by decide +kernel
theorem dX9_laysDisplay_27 : decode cX9_laysDisplay 27 = .ok (.aload_n 0, 1) := by decide +kernel
theorem dX9_laysDisplay_28 : decode cX9_laysDisplay 28 = .ok (.getfield 7, 3) := by decide +kernel
theorem dX9_laysDisplay_31 : decode cX9_laysDisplay 31 = .ok (.bipush 7, 2) := by decide +kernel
theorem dX9_laysDisplay_33 : decode cX9_laysDisplay 33 = .ok (.iaload, 1) := by decide +kernel
theorem dX9_laysDisplay_34 : decode cX9_laysDisplay 34 = .ok (.invokevirtual 89, 3) := by decide +kernel
theorem dX9_laysDisplay_37 : decode cX9_laysDisplay 37 = .ok (.goto 4, 3) := by decide +kernel
theorem dX9_laysDisplay_40 : decode cX9_laysDisplay 40 = .ok (.iconst (-1), 1) := by decide +kernel
theorem dX9_laysDisplay_41 : decode cX9_laysDisplay 41 = .ok (.istore_n 2, 1) := by decide +kernel
theorem dX9_laysDisplay_42 : decode cX9_laysDisplay 42 = .ok (.aload_n 0, 1) := by decide +kernel
theorem dX9_laysDisplay_43 : decode cX9_laysDisplay 43 = .ok (.iload_n 1, 1) := by decide +kernel
theorem dX9_laysDisplay_44 : decode cX9_laysDisplay 44 = .ok (.ifCond .eq 12, 3) := by decide +kernel
theorem dX9_laysDisplay_47 : decode cX9_laysDisplay 47 = .ok (.aload_n 0, 1) := by decide +kernel
theorem dX9_laysDisplay_48 : decode cX9_laysDisplay 48 = .ok (.iload_n 2, 1) := by decide +kernel
theorem dX9_laysDisplay_49 : decode cX9_laysDisplay 49 = .ok (.iconst 0, 1) := by decide +kernel
theorem dX9_laysDisplay_50 : decode cX9_laysDisplay 50 = .ok (.invokevirtual 50, 3) := by decide +kernel
theorem dX9_laysDisplay_53 : decode cX9_laysDisplay 53 = .ok (.goto 10, 3) := by decide +kernel
theorem dX9_laysDisplay_56 : decode cX9_laysDisplay 56 = .ok (.aload_n 0, 1) := by decide +kernel
theorem dX9_laysDisplay_57 : decode cX9_laysDisplay 57 = .ok (.getfield 7, 3) := by decide +kernel
theorem dX9_laysDisplay_60 : decode cX9_laysDisplay 60 = .ok (.bipush 6, 2) := by decide +kernel
theorem dX9_laysDisplay_62 : decode cX9_laysDisplay 62 = .ok (.iaload, 1) := by decide +kernel
theorem dX9_laysDisplay_63 : decode cX9_laysDisplay 63 = .ok (.putfield 92, 3) := by decide +kernel
theorem dX9_laysDisplay_66 : decode cX9_laysDisplay 66 = .ok (.iconst 0, 1) := by decide +kernel
theorem dX9_laysDisplay_67 : decode cX9_laysDisplay 67 = .ok (.istore_n 3, 1) := by decide +kernel
theorem dX9_laysDisplay_68 : decode cX9_laysDisplay 68 = .ok (.iload_n 3, 1) := by decide +kernel
theorem dX9_laysDisplay_69 : decode cX9_laysDisplay 69 = .ok (.aload_n 0, 1) := by decide +kernel
theorem dX9_laysDisplay_70 : decode cX9_laysDisplay 70 = .ok (.getfield 92, 3) := by decide +kernel
theorem dX9_laysDisplay_73 : decode cX9_laysDisplay 73 = .ok (.if_icmp .ge 67, 3) := by decide +kernel
theorem dX9_laysDisplay_76 : decode cX9_laysDisplay 76 = .ok (.iload_n 1, 1) := by decide +kernel
theorem dX9_laysDisplay_77 : decode cX9_laysDisplay 77 = .ok (.ifCond .eq 7, 3) := by decide +kernel
theorem dX9_laysDisplay_80 : decode cX9_laysDisplay 80 = .ok (.iconst 0, 1) := by decide +kernel
theorem dX9_laysDisplay_81 : decode cX9_laysDisplay 81 = .ok (.goto 12, 3) := by decide +kernel
theorem dX9_laysDisplay_84 : decode cX9_laysDisplay 84 = .ok (.aload_n 0, 1) := by decide +kernel
theorem dX9_laysDisplay_85 : decode cX9_laysDisplay 85 = .ok (.getfield 7, 3) := by decide +kernel
theorem dX9_laysDisplay_88 : decode cX9_laysDisplay 88 = .ok (.bipush 10, 2) := by decide +kernel
theorem dX9_laysDisplay_90 : decode cX9_laysDisplay 90 = .ok (.iload_n 3, 1) := by decide +kernel
theorem dX9_laysDisplay_91 : decode cX9_laysDisplay 91 = .ok (.iadd, 1) := by decide +kernel
theorem dX9_laysDisplay_92 : decode cX9_laysDisplay 92 = .ok (.iaload, 1) := by decide +kernel
theorem dX9_laysDisplay_93 : decode cX9_laysDisplay 93 = .ok (.istore 4, 2) := by decide +kernel
theorem dX9_laysDisplay_95 : decode cX9_laysDisplay 95 = .ok (.aload_n 0, 1) := by decide +kernel
theorem dX9_laysDisplay_96 : decode cX9_laysDisplay 96 = .ok (.getfield 19, 3) := by decide +kernel
theorem dX9_laysDisplay_99 : decode cX9_laysDisplay 99 = .ok (.iload_n 3, 1) := by decide +kernel
theorem dX9_laysDisplay_100 : decode cX9_laysDisplay 100 = .ok (.iload_n 1, 1) := by decide +kernel
theorem dX9_laysDisplay_101 : decode cX9_laysDisplay 101 = .ok (.ifCond .eq 12, 3) := by decide +kernel
theorem dX9_laysDisplay_104 : decode cX9_laysDisplay 104 = .ok (.aload_n 0, 1) := by decide +kernel
theorem dX9_laysDisplay_105 : decode cX9_laysDisplay 105 = .ok (.iload_n 2, 1) := by decide +kernel
theorem dX9_laysDisplay_106 : decode cX9_laysDisplay 106 = .ok (.iload_n 3, 1) := by decide +kernel
theorem dX9_laysDisplay_107 : decode cX9_laysDisplay 107 = .ok (.invokevirtual 53, 3) := by decide +kernel
theorem dX9_laysDisplay_110 : decode cX9_laysDisplay 110 = .ok (.goto 23, 3) := by decide +kernel
theorem dX9_laysDisplay_113 : decode cX9_laysDisplay 113 = .ok (.iload 4, 2) := by decide +kernel
theorem dX9_laysDisplay_115 : decode cX9_laysDisplay 115 = .ok (.bipush 100, 2) := by decide +kernel
theorem dX9_laysDisplay_117 : decode cX9_laysDisplay 117 = .ok (.if_icmp .lt 11, 3) := by decide +kernel
theorem dX9_laysDisplay_120 : decode cX9_laysDisplay 120 = .ok (.iload 4, 2) := by decide +kernel
theorem dX9_laysDisplay_122 : decode cX9_laysDisplay 122 = .ok (.bipush 100, 2) := by decide +kernel
theorem dX9_laysDisplay_124 : decode cX9_laysDisplay 124 = .ok (.isub, 1) := by decide +kernel
theorem dX9_laysDisplay_125 : decode cX9_laysDisplay 125 = .ok (.goto 8, 3) := by decide +kernel
theorem dX9_laysDisplay_128 : decode cX9_laysDisplay 128 = .ok (.iload 4, 2) := by decide +kernel
theorem dX9_laysDisplay_130 : decode cX9_laysDisplay 130 = .ok (.invokestatic 36, 3) := by decide +kernel
theorem dX9_laysDisplay_133 : decode cX9_laysDisplay 133 = .ok (.iastore, 1) := by decide +kernel
theorem dX9_laysDisplay_134 : decode cX9_laysDisplay 134 = .ok (.iinc 3 1, 3) := by decide +kernel
theorem dX9_laysDisplay_137 : decode cX9_laysDisplay 137 = .ok (.goto (-69), 3) := by decide +kernel
theorem dX9_laysDisplay_140 : decode cX9_laysDisplay 140 = .ok (.return_, 1) := by decide +kernel
theorem dX9_setWays_0 : decode cX9_setWays 0 = .ok (.aload_n 0, 1) := by decide +kernel
theorem dX9_setWays_1 : decode cX9_setWays 1 = .ok (.iload_n 2, 1) := by decide +kernel
theorem dX9_setWays_2 : decode cX9_setWays 2 = .ok (.i2l, 1) := by decide +kernel
theorem dX9_setWays_3 : decode cX9_setWays 3 = .ok (.lconst 1, 1) := by decide +kernel
theorem dX9_setWays_4 : decode cX9_setWays 4 = .ok (.ldc2_w 95, 3) := by decide +kernel
theorem dX9_setWays_7 : decode cX9_setWays 7 = .ok (.invokestatic 46, 3) := by decide +kernel
theorem dX9_setWays_10 : decode cX9_setWays 10 = .ok (.iconst 1, 1) := by decide +kernel
theorem dX9_setWays_11 : decode cX9_setWays 11 = .ok (.invokevirtual 72, 3) := by decide +kernel
theorem dX9_setWays_14 : decode cX9_setWays 14 = .ok (.ifCond .ne 5, 3) := by decide +kernel
theorem dX9_setWays_17 : decode cX9_setWays 17 = .ok (.iconst 0, 1) := by decide +kernel
theorem dX9_setWays_18 : decode cX9_setWays 18 = .ok (.ireturn, 1) := by decide +kernel
theorem dX9_setWays_19 : decode cX9_setWays 19 = .ok (.aload_n 0, 1) := by decide +kernel
theorem dX9_setWays_20 : decode cX9_setWays 20 = .ok (.invokevirtual 97, 3) := by decide +kernel
theorem dX9_setWays_23 : decode cX9_setWays 23 = .ok (.aload_n 0, 1) := by decide +kernel
theorem dX9_setWays_24 : decode cX9_setWays 24 = .ok (.getfield 7, 3) := by decide +kernel
theorem dX9_setWays_27 : decode cX9_setWays 27 = .ok (.iconst 2, 1) := by decide +kernel
theorem dX9_setWays_28 : decode cX9_setWays 28 = .ok (.iaload, 1) := by decide +kernel
theorem dX9_setWays_29 : decode cX9_setWays 29 = .ok (.istore_n 3, 1) := by decide +kernel
theorem dX9_setWays_30 : decode cX9_setWays 30 = .ok (.aload_n 0, 1) := by decide +kernel
theorem dX9_setWays_31 : decode cX9_setWays 31 = .ok (.getfield 7, 3) := by decide +kernel
theorem dX9_setWays_34 : decode cX9_setWays 34 = .ok (.iconst 2, 1) := by decide +kernel
theorem dX9_setWays_35 : decode cX9_setWays 35 = .ok (.iload_n 2, 1) := by decide +kernel
theorem dX9_setWays_36 : decode cX9_setWays 36 = .ok (.iastore, 1) := by decide +kernel
theorem dX9_setWays_37 : decode cX9_setWays 37 = .ok (.aload_n 0, 1) := by decide +kernel
theorem dX9_setWays_38 : decode cX9_setWays 38 = .ok (.getfield 7, 3) := by decide +kernel
theorem dX9_setWays_41 : decode cX9_setWays 41 = .ok (.iconst 3, 1) := by decide +kernel
theorem dX9_setWays_42 : decode cX9_setWays 42 = .ok (.iload_n 1, 1) := by decide +kernel
theorem dX9_setWays_43 : decode cX9_setWays 43 = .ok (.ifCond .eq 7, 3) := by decide +kernel
theorem dX9_setWays_46 : decode cX9_setWays 46 = .ok (.iconst 1, 1) := by decide +kernel
theorem dX9_setWays_47 : decode cX9_setWays 47 = .ok (.goto 4, 3) := by decide +kernel
theorem dX9_setWays_50 : decode cX9_setWays 50 = .ok (.iconst 0, 1) := by decide +kernel
theorem dX9_setWays_51 : decode cX9_setWays 51 = .ok (.iastore, 1) := by decide +kernel
theorem dX9_setWays_52 : decode cX9_setWays 52 = .ok (.aload_n 0, 1) := by decide +kernel
theorem dX9_setWays_53 : decode cX9_setWays 53 = .ok (.getfield 7, 3) := by decide +kernel
theorem dX9_setWays_56 : decode cX9_setWays 56 = .ok (.bipush 7, 2) := by decide +kernel
theorem dX9_setWays_58 : decode cX9_setWays 58 = .ok (.iconst 0, 1) := by decide +kernel
theorem dX9_setWays_59 : decode cX9_setWays 59 = .ok (.iastore, 1) := by decide +kernel
theorem dX9_setWays_60 : decode cX9_setWays 60 = .ok (.iload_n 3, 1) := by decide +kernel
theorem dX9_setWays_61 : decode cX9_setWays 61 = .ok (.ireturn, 1) := by decide +kernel
theorem dX9_press_0 : decode cX9_press 0 = .ok (.aload_n 0, 1) := by decide +kernel
theorem dX9_press_1 : decode cX9_press 1 = .ok (.getfield 7, 3) := by decide +kernel
theorem dX9_press_4 : decode cX9_press 4 = .ok (.iconst 4, 1) := by decide +kernel
theorem dX9_press_5 : decode cX9_press 5 = .ok (.iaload, 1) := by decide +kernel
theorem dX9_press_6 : decode cX9_press 6 = .ok (.iconst 1, 1) := by decide +kernel
theorem dX9_press_7 : decode cX9_press 7 = .ok (.if_icmp .ne 17, 3) := by decide +kernel
theorem dX9_press_10 : decode cX9_press 10 = .ok (.aload_n 0, 1) := by decide +kernel
theorem dX9_press_11 : decode cX9_press 11 = .ok (.getfield 7, 3) := by decide +kernel
theorem dX9_press_14 : decode cX9_press 14 = .ok (.iconst 5, 1) := by decide +kernel
theorem dX9_press_15 : decode cX9_press 15 = .ok (.iaload, 1) := by decide +kernel
theorem dX9_press_16 : decode cX9_press 16 = .ok (.iload_n 1, 1) := by decide +kernel
theorem dX9_press_17 : decode cX9_press 17 = .ok (.if_icmp .ne 7, 3) := by decide +kernel
theorem dX9_press_20 : decode cX9_press 20 = .ok (.iconst 1, 1) := by decide +kernel
theorem dX9_press_21 : decode cX9_press 21 = .ok (.goto 4, 3) := by decide +kernel
theorem dX9_press_24 : decode cX9_press 24 = .ok (.iconst 0, 1) := by decide +kernel
theorem dX9_press_25 : decode cX9_press 25 = .ok (.istore_n 2, 1) := by decide +kernel
theorem dX9_press_26 : decode cX9_press 26 = .ok (.aload_n 0, 1) := by decide +kernel
theorem dX9_press_27 : decode cX9_press 27 = .ok (.iload_n 1, 1) := by decide +kernel
theorem dX9_press_28 : decode cX9_press 28 = .ok (.i2l, 1) := by decide +kernel
theorem dX9_press_29 : decode cX9_press 29 = .ok (.ldc2_w 100, 3) := by decide +kernel
theorem dX9_press_32 : decode cX9_press 32 = .ok (.ldc2_w 102, 3) := by decide +kernel
theorem dX9_press_35 : decode cX9_press 35 = .ok (.invokestatic 46, 3) := by decide +kernel
theorem dX9_press_38 : decode cX9_press 38 = .ok (.iload_n 2, 1) := by decide +kernel
theorem dX9_press_39 : decode cX9_press 39 = .ok (.ifCond .ne 15, 3) := by decide +kernel
theorem dX9_press_42 : decode cX9_press 42 = .ok (.aload_n 0, 1) := by decide +kernel
theorem dX9_press_43 : decode cX9_press 43 = .ok (.getfield 7, 3) := by decide +kernel
theorem dX9_press_46 : decode cX9_press 46 = .ok (.bipush 6, 2) := by decide +kernel
theorem dX9_press_48 : decode cX9_press 48 = .ok (.iaload, 1) := by decide +kernel
theorem dX9_press_49 : decode cX9_press 49 = .ok (.bipush 10, 2) := by decide +kernel
theorem dX9_press_51 : decode cX9_press 51 = .ok (.if_icmp .ge 7, 3) := by decide +kernel
theorem dX9_press_54 : decode cX9_press 54 = .ok (.iconst 1, 1) := by decide +kernel
theorem dX9_press_55 : decode cX9_press 55 = .ok (.goto 4, 3) := by decide +kernel
theorem dX9_press_58 : decode cX9_press 58 = .ok (.iconst 0, 1) := by decide +kernel
theorem dX9_press_59 : decode cX9_press 59 = .ok (.invokevirtual 72, 3) := by decide +kernel
theorem dX9_press_62 : decode cX9_press 62 = .ok (.ifCond .ne 5, 3) := by decide +kernel
theorem dX9_press_65 : decode cX9_press 65 = .ok (.iconst 0, 1) := by decide +kernel
theorem dX9_press_66 : decode cX9_press 66 = .ok (.ireturn, 1) := by decide +kernel
theorem dX9_press_67 : decode cX9_press 67 = .ok (.aload_n 0, 1) := by decide +kernel
theorem dX9_press_68 : decode cX9_press 68 = .ok (.invokevirtual 97, 3) := by decide +kernel
theorem dX9_press_71 : decode cX9_press 71 = .ok (.aload_n 0, 1) := by decide +kernel
theorem dX9_press_72 : decode cX9_press 72 = .ok (.getfield 7, 3) := by decide +kernel
theorem dX9_press_75 : decode cX9_press 75 = .ok (.bipush 7, 2) := by decide +kernel
theorem dX9_press_77 : decode cX9_press 77 = .ok (.iconst 0, 1) := by decide +kernel
theorem dX9_press_78 : decode cX9_press 78 = .ok (.iastore, 1) := by decide +kernel
theorem dX9_press_79 : decode cX9_press 79 = .ok (.iload_n 2, 1) := by decide +kernel
theorem dX9_press_80 : decode cX9_press 80 = .ok (.ifCond .eq 45, 3) := by decide +kernel
theorem dX9_press_83 : decode cX9_press 83 = .ok (.bipush 10, 2) := by decide +kernel
theorem dX9_press_85 : decode cX9_press 85 = .ok (.aload_n 0, 1) := by decide +kernel
theorem dX9_press_86 : decode cX9_press 86 = .ok (.getfield 7, 3) := by decide +kernel
theorem dX9_press_89 : decode cX9_press 89 = .ok (.bipush 6, 2) := by decide +kernel
theorem dX9_press_91 : decode cX9_press 91 = .ok (.iaload, 1) := by decide +kernel
theorem dX9_press_92 : decode cX9_press 92 = .ok (.iadd, 1) := by decide +kernel
theorem dX9_press_93 : decode cX9_press 93 = .ok (.iconst 1, 1) := by decide +kernel
theorem dX9_press_94 : decode cX9_press 94 = .ok (.isub, 1) := by decide +kernel
theorem dX9_press_95 : decode cX9_press 95 = .ok (.istore_n 3, 1) := by decide +kernel
theorem dX9_press_96 : decode cX9_press 96 = .ok (.aload_n 0, 1) := by decide +kernel
theorem dX9_press_97 : decode cX9_press 97 = .ok (.getfield 7, 3) := by decide +kernel
theorem dX9_press_100 : decode cX9_press 100 = .ok (.iload_n 3, 1) := by decide +kernel
theorem dX9_press_101 : decode cX9_press 101 = .ok (.bipush 100, 2) := by decide +kernel
theorem dX9_press_103 : decode cX9_press 103 = .ok (.aload_n 0, 1) := by decide +kernel
theorem dX9_press_104 : decode cX9_press 104 = .ok (.getfield 7, 3) := by decide +kernel
theorem dX9_press_107 : decode cX9_press 107 = .ok (.iload_n 3, 1) := by decide +kernel
theorem dX9_press_108 : decode cX9_press 108 = .ok (.iaload, 1) := by decide +kernel
theorem dX9_press_109 : decode cX9_press 109 = .ok (.bipush 100, 2) := by decide +kernel
theorem dX9_press_111 : decode cX9_press 111 = .ok (.isub, 1) := by decide +kernel
theorem dX9_press_112 : decode cX9_press 112 = .ok (.invokestatic 104, 3) := by decide +kernel
theorem dX9_press_115 : decode cX9_press 115 = .ok (.iadd, 1) := by decide +kernel
theorem dX9_press_116 : decode cX9_press 116 = .ok (.iastore, 1) := by decide +kernel
theorem dX9_press_117 : decode cX9_press 117 = .ok (.aload_n 0, 1) := by decide +kernel
theorem dX9_press_118 : decode cX9_press 118 = .ok (.getfield 7, 3) := by decide +kernel
theorem dX9_press_121 : decode cX9_press 121 = .ok (.bipush 6, 2) := by decide +kernel
theorem dX9_press_123 : decode cX9_press 123 = .ok (.iaload, 1) := by decide +kernel
theorem dX9_press_124 : decode cX9_press 124 = .ok (.ireturn, 1) := by decide +kernel
theorem dX9_press_125 : decode cX9_press 125 = .ok (.aload_n 0, 1) := by decide +kernel
theorem dX9_press_126 : decode cX9_press 126 = .ok (.getfield 7, 3) := by decide +kernel
theorem dX9_press_129 : decode cX9_press 129 = .ok (.bipush 10, 2) := by decide +kernel
theorem dX9_press_131 : decode cX9_press 131 = .ok (.aload_n 0, 1) := by decide +kernel
theorem dX9_press_132 : decode cX9_press 132 = .ok (.getfield 7, 3) := by decide +kernel
theorem dX9_press_135 : decode cX9_press 135 = .ok (.bipush 6, 2) := by decide +kernel
theorem dX9_press_137 : decode cX9_press 137 = .ok (.iaload, 1) := by decide +kernel
theorem dX9_press_138 : decode cX9_press 138 = .ok (.iadd, 1) := by decide +kernel
theorem dX9_press_139 : decode cX9_press 139 = .ok (.aload_n 0, 1) := by decide +kernel
theorem dX9_press_140 : decode cX9_press 140 = .ok (.getfield 7, 3) := by decide +kernel
theorem dX9_press_143 : decode cX9_press 143 = .ok (.iconst 4, 1) := by decide +kernel
theorem dX9_press_144 : decode cX9_press 144 = .ok (.iaload, 1) := by decide +kernel
theorem dX9_press_145 : decode cX9_press 145 = .ok (.iconst 1, 1) := by decide +kernel
theorem dX9_press_146 : decode cX9_press 146 = .ok (.if_icmp .ne 13, 3) := by decide +kernel
theorem dX9_press_149 : decode cX9_press 149 = .ok (.bipush 100, 2) := by decide +kernel
theorem dX9_press_151 : decode cX9_press 151 = .ok (.iload_n 1, 1) := by decide +kernel
theorem dX9_press_152 : decode cX9_press 152 = .ok (.invokestatic 36, 3) := by decide +kernel
theorem dX9_press_155 : decode cX9_press 155 = .ok (.iadd, 1) := by decide +kernel
theorem dX9_press_156 : decode cX9_press 156 = .ok (.goto 4, 3) := by decide +kernel
theorem dX9_press_159 : decode cX9_press 159 = .ok (.iload_n 1, 1) := by decide +kernel
theorem dX9_press_160 : decode cX9_press 160 = .ok (.iastore, 1) := by decide +kernel
theorem dX9_press_161 : decode cX9_press 161 = .ok (.aload_n 0, 1) := by decide +kernel
theorem dX9_press_162 : decode cX9_press 162 = .ok (.getfield 7, 3) := by decide +kernel
theorem dX9_press_165 : decode cX9_press 165 = .ok (.bipush 6, 2) := by decide +kernel
theorem dX9_press_167 : decode cX9_press 167 = .ok (.dup2, 1) := by decide +kernel
theorem dX9_press_168 : decode cX9_press 168 = .ok (.iaload, 1) := by decide +kernel
theorem dX9_press_169 : decode cX9_press 169 = .ok (.iconst 1, 1) := by decide +kernel
theorem dX9_press_170 : decode cX9_press 170 = .ok (.iadd, 1) := by decide +kernel
theorem dX9_press_171 : decode cX9_press 171 = .ok (.iastore, 1) := by decide +kernel
theorem dX9_press_172 : decode cX9_press 172 = .ok (.aload_n 0, 1) := by decide +kernel
theorem dX9_press_173 : decode cX9_press 173 = .ok (.getfield 7, 3) := by decide +kernel
theorem dX9_press_176 : decode cX9_press 176 = .ok (.iconst 5, 1) := by decide +kernel
theorem dX9_press_177 : decode cX9_press 177 = .ok (.aload_n 0, 1) := by decide +kernel
theorem dX9_press_178 : decode cX9_press 178 = .ok (.getfield 7, 3) := by decide +kernel
theorem dX9_press_181 : decode cX9_press 181 = .ok (.iconst 4, 1) := by decide +kernel
theorem dX9_press_182 : decode cX9_press 182 = .ok (.iaload, 1) := by decide +kernel
theorem dX9_press_183 : decode cX9_press 183 = .ok (.iconst 1, 1) := by decide +kernel
theorem dX9_press_184 : decode cX9_press 184 = .ok (.if_icmp .ne 7, 3) := by decide +kernel
theorem dX9_press_187 : decode cX9_press 187 = .ok (.iload_n 1, 1) := by decide +kernel
theorem dX9_press_188 : decode cX9_press 188 = .ok (.goto 4, 3) := by decide +kernel
theorem dX9_press_191 : decode cX9_press 191 = .ok (.iconst (-1), 1) := by decide +kernel
theorem dX9_press_192 : decode cX9_press 192 = .ok (.iastore, 1) := by decide +kernel
theorem dX9_press_193 : decode cX9_press 193 = .ok (.aload_n 0, 1) := by decide +kernel
theorem dX9_press_194 : decode cX9_press 194 = .ok (.getfield 7, 3) := by decide +kernel
theorem dX9_press_197 : decode cX9_press 197 = .ok (.bipush 6, 2) := by decide +kernel
theorem dX9_press_199 : decode cX9_press 199 = .ok (.iaload, 1) := by decide +kernel
theorem dX9_press_200 : decode cX9_press 200 = .ok (.ireturn, 1) := by decide +kernel
theorem dX9_pause_0 : decode cX9_pause 0 = .ok (.aload_n 0, 1) := by decide +kernel
theorem dX9_pause_1 : decode cX9_pause 1 = .ok (.iconst 0, 1) := by decide +kernel
theorem dX9_pause_2 : decode cX9_pause 2 = .ok (.putfield 25, 3) := by decide +kernel
theorem dX9_pause_5 : decode cX9_pause 5 = .ok (.aload_n 0, 1) := by decide +kernel
theorem dX9_pause_6 : decode cX9_pause 6 = .ok (.invokevirtual 97, 3) := by decide +kernel
theorem dX9_pause_9 : decode cX9_pause 9 = .ok (.aload_n 0, 1) := by decide +kernel
theorem dX9_pause_10 : decode cX9_pause 10 = .ok (.getfield 7, 3) := by decide +kernel
theorem dX9_pause_13 : decode cX9_pause 13 = .ok (.iconst 5, 1) := by decide +kernel
theorem dX9_pause_14 : decode cX9_pause 14 = .ok (.iaload, 1) := by decide +kernel
theorem dX9_pause_15 : decode cX9_pause 15 = .ok (.istore_n 1, 1) := by decide +kernel
theorem dX9_pause_16 : decode cX9_pause 16 = .ok (.aload_n 0, 1) := by decide +kernel
theorem dX9_pause_17 : decode cX9_pause 17 = .ok (.getfield 7, 3) := by decide +kernel
theorem dX9_pause_20 : decode cX9_pause 20 = .ok (.iconst 5, 1) := by decide +kernel
theorem dX9_pause_21 : decode cX9_pause 21 = .ok (.iconst (-1), 1) := by decide +kernel
theorem dX9_pause_22 : decode cX9_pause 22 = .ok (.iastore, 1) := by decide +kernel
theorem dX9_pause_23 : decode cX9_pause 23 = .ok (.iload_n 1, 1) := by decide +kernel
theorem dX9_pause_24 : decode cX9_pause 24 = .ok (.ireturn, 1) := by decide +kernel
theorem dX9_mode_0 : decode cX9_mode 0 = .ok (.aload_n 0, 1) := by decide +kernel
theorem dX9_mode_1 : decode cX9_mode 1 = .ok (.iconst 0, 1) := by decide +kernel
theorem dX9_mode_2 : decode cX9_mode 2 = .ok (.putfield 25, 3) := by decide +kernel
theorem dX9_mode_5 : decode cX9_mode 5 = .ok (.aload_n 0, 1) := by decide +kernel
theorem dX9_mode_6 : decode cX9_mode 6 = .ok (.invokevirtual 97, 3) := by decide +kernel
theorem dX9_mode_9 : decode cX9_mode 9 = .ok (.aload_n 0, 1) := by decide +kernel
theorem dX9_mode_10 : decode cX9_mode 10 = .ok (.invokevirtual 107, 3) := by decide +kernel
theorem dX9_mode_13 : decode cX9_mode 13 = .ok (.iconst 0, 1) := by decide +kernel
theorem dX9_mode_14 : decode cX9_mode 14 = .ok (.istore_n 2, 1) := by decide +kernel
theorem dX9_mode_15 : decode cX9_mode 15 = .ok (.iload_n 2, 1) := by decide +kernel
theorem dX9_mode_16 : decode cX9_mode 16 = .ok (.aload_n 0, 1) := by decide +kernel
theorem dX9_mode_17 : decode cX9_mode 17 = .ok (.getfield 7, 3) := by decide +kernel
theorem dX9_mode_20 : decode cX9_mode 20 = .ok (.bipush 6, 2) := by decide +kernel
theorem dX9_mode_22 : decode cX9_mode 22 = .ok (.iaload, 1) := by decide +kernel
theorem dX9_mode_23 : decode cX9_mode 23 = .ok (.if_icmp .ge 31, 3) := by decide +kernel
theorem dX9_mode_26 : decode cX9_mode 26 = .ok (.iload_n 1, 1) := by decide +kernel
theorem dX9_mode_27 : decode cX9_mode 27 = .ok (.ifCond .eq 27, 3) := by decide +kernel
theorem dX9_mode_30 : decode cX9_mode 30 = .ok (.aload_n 0, 1) := by decide +kernel
theorem dX9_mode_31 : decode cX9_mode 31 = .ok (.getfield 7, 3) := by decide +kernel
theorem dX9_mode_34 : decode cX9_mode 34 = .ok (.bipush 10, 2) := by decide +kernel
theorem dX9_mode_36 : decode cX9_mode 36 = .ok (.iload_n 2, 1) := by decide +kernel
theorem dX9_mode_37 : decode cX9_mode 37 = .ok (.iadd, 1) := by decide +kernel
theorem dX9_mode_38 : decode cX9_mode 38 = .ok (.bipush 100, 2) := by decide +kernel
theorem dX9_mode_40 : decode cX9_mode 40 = .ok (.aload_n 0, 1) := by decide +kernel
theorem dX9_mode_41 : decode cX9_mode 41 = .ok (.getfield 19, 3) := by decide +kernel
theorem dX9_mode_44 : decode cX9_mode 44 = .ok (.iload_n 2, 1) := by decide +kernel
theorem dX9_mode_45 : decode cX9_mode 45 = .ok (.iaload, 1) := by decide +kernel
theorem dX9_mode_46 : decode cX9_mode 46 = .ok (.iadd, 1) := by decide +kernel
theorem dX9_mode_47 : decode cX9_mode 47 = .ok (.iastore, 1) := by decide +kernel
theorem dX9_mode_48 : decode cX9_mode 48 = .ok (.iinc 2 1, 3) := by decide +kernel
theorem dX9_mode_51 : decode cX9_mode 51 = .ok (.goto (-36), 3) := by decide +kernel
theorem dX9_mode_54 : decode cX9_mode 54 = .ok (.aload_n 0, 1) := by decide +kernel
theorem dX9_mode_55 : decode cX9_mode 55 = .ok (.getfield 7, 3) := by decide +kernel
theorem dX9_mode_58 : decode cX9_mode 58 = .ok (.iconst 4, 1) := by decide +kernel
theorem dX9_mode_59 : decode cX9_mode 59 = .ok (.iload_n 1, 1) := by decide +kernel
theorem dX9_mode_60 : decode cX9_mode 60 = .ok (.ifCond .eq 7, 3) := by decide +kernel
theorem dX9_mode_63 : decode cX9_mode 63 = .ok (.iconst 1, 1) := by decide +kernel
theorem dX9_mode_64 : decode cX9_mode 64 = .ok (.goto 4, 3) := by decide +kernel
theorem dX9_mode_67 : decode cX9_mode 67 = .ok (.iconst 0, 1) := by decide +kernel
theorem dX9_mode_68 : decode cX9_mode 68 = .ok (.iastore, 1) := by decide +kernel
theorem dX9_mode_69 : decode cX9_mode 69 = .ok (.aload_n 0, 1) := by decide +kernel
theorem dX9_mode_70 : decode cX9_mode 70 = .ok (.getfield 7, 3) := by decide +kernel
theorem dX9_mode_73 : decode cX9_mode 73 = .ok (.iconst 5, 1) := by decide +kernel
theorem dX9_mode_74 : decode cX9_mode 74 = .ok (.iconst (-1), 1) := by decide +kernel
theorem dX9_mode_75 : decode cX9_mode 75 = .ok (.iastore, 1) := by decide +kernel
theorem dX9_mode_76 : decode cX9_mode 76 = .ok (.aload_n 0, 1) := by decide +kernel
theorem dX9_mode_77 : decode cX9_mode 77 = .ok (.getfield 7, 3) := by decide +kernel
theorem dX9_mode_80 : decode cX9_mode 80 = .ok (.bipush 7, 2) := by decide +kernel
theorem dX9_mode_82 : decode cX9_mode 82 = .ok (.iconst 0, 1) := by decide +kernel
theorem dX9_mode_83 : decode cX9_mode 83 = .ok (.iastore, 1) := by decide +kernel
theorem dX9_mode_84 : decode cX9_mode 84 = .ok (.aload_n 0, 1) := by decide +kernel
theorem dX9_mode_85 : decode cX9_mode 85 = .ok (.getfield 7, 3) := by decide +kernel
theorem dX9_mode_88 : decode cX9_mode 88 = .ok (.bipush 6, 2) := by decide +kernel
theorem dX9_mode_90 : decode cX9_mode 90 = .ok (.iaload, 1) := by decide +kernel
theorem dX9_mode_91 : decode cX9_mode 91 = .ok (.ireturn, 1) := by decide +kernel
theorem dX9_next_0 : decode cX9_next 0 = .ok (.aload_n 0, 1) := by decide +kernel
theorem dX9_next_1 : decode cX9_next 1 = .ok (.invokevirtual 85, 3) := by decide +kernel
theorem dX9_next_4 : decode cX9_next 4 = .ok (.istore_n 1, 1) := by decide +kernel
theorem dX9_next_5 : decode cX9_next 5 = .ok (.aload_n 0, 1) := by decide +kernel
theorem dX9_next_6 : decode cX9_next 6 = .ok (.iload_n 1, 1) := by decide +kernel
theorem dX9_next_7 : decode cX9_next 7 = .ok (.ifCond .le 7, 3) := by decide +kernel
theorem dX9_next_10 : decode cX9_next 10 = .ok (.iconst 1, 1) := by decide +kernel
theorem dX9_next_11 : decode cX9_next 11 = .ok (.goto 4, 3) := by decide +kernel
theorem dX9_next_14 : decode cX9_next 14 = .ok (.iconst 0, 1) := by decide +kernel
theorem dX9_next_15 : decode cX9_next 15 = .ok (.iconst 1, 1) := by decide +kernel
theorem dX9_next_16 : decode cX9_next 16 = .ok (.invokevirtual 72, 3) := by decide +kernel
theorem dX9_next_19 : decode cX9_next 19 = .ok (.ifCond .ne 5, 3) := by decide +kernel
theorem dX9_next_22 : decode cX9_next 22 = .ok (.iconst 0, 1) := by decide +kernel
theorem dX9_next_23 : decode cX9_next 23 = .ok (.ireturn, 1) := by decide +kernel
theorem dX9_next_24 : decode cX9_next 24 = .ok (.aload_n 0, 1) := by decide +kernel
theorem dX9_next_25 : decode cX9_next 25 = .ok (.invokevirtual 97, 3) := by decide +kernel
theorem dX9_next_28 : decode cX9_next 28 = .ok (.aload_n 0, 1) := by decide +kernel
theorem dX9_next_29 : decode cX9_next 29 = .ok (.getfield 7, 3) := by decide +kernel
theorem dX9_next_32 : decode cX9_next 32 = .ok (.bipush 7, 2) := by decide +kernel
theorem dX9_next_34 : decode cX9_next 34 = .ok (.aload_n 0, 1) := by decide +kernel
theorem dX9_next_35 : decode cX9_next 35 = .ok (.getfield 7, 3) := by decide +kernel
theorem dX9_next_38 : decode cX9_next 38 = .ok (.bipush 7, 2) := by decide +kernel
theorem dX9_next_40 : decode cX9_next 40 = .ok (.iaload, 1) := by decide +kernel
theorem dX9_next_41 : decode cX9_next 41 = .ok (.iconst 1, 1) := by decide +kernel
theorem dX9_next_42 : decode cX9_next 42 = .ok (.iadd, 1) := by decide +kernel
theorem dX9_next_43 : decode cX9_next 43 = .ok (.iload_n 1, 1) := by decide +kernel
theorem dX9_next_44 : decode cX9_next 44 = .ok (.irem, 1) := by decide +kernel
theorem dX9_next_45 : decode cX9_next 45 = .ok (.iastore, 1) := by decide +kernel
theorem dX9_next_46 : decode cX9_next 46 = .ok (.aload_n 0, 1) := by decide +kernel
theorem dX9_next_47 : decode cX9_next 47 = .ok (.getfield 7, 3) := by decide +kernel
theorem dX9_next_50 : decode cX9_next 50 = .ok (.bipush 7, 2) := by decide +kernel
theorem dX9_next_52 : decode cX9_next 52 = .ok (.iaload, 1) := by decide +kernel
theorem dX9_next_53 : decode cX9_next 53 = .ok (.ireturn, 1) := by decide +kernel
theorem dX9_goesFromText_0 : decode cX9_goesFromText 0 = .ok (.aload_n 0, 1) := by decide +kernel
theorem dX9_goesFromText_1 : decode cX9_goesFromText 1 = .ok (.getfield 7, 3) := by decide +kernel
theorem dX9_goesFromText_4 : decode cX9_goesFromText 4 = .ok (.bipush 8, 2) := by decide +kernel
theorem dX9_goesFromText_6 : decode cX9_goesFromText 6 = .ok (.dup2, 1) := by decide +kernel
theorem dX9_goesFromText_7 : decode cX9_goesFromText 7 = .ok (.iaload, 1) := by decide +kernel
theorem dX9_goesFromText_8 : decode cX9_goesFromText 8 = .ok (.iconst 1, 1) := by decide +kernel
theorem dX9_goesFromText_9 : decode cX9_goesFromText 9 = .ok (.isub, 1) := by decide +kernel
theorem dX9_goesFromText_10 : decode cX9_goesFromText 10 = .ok (.iastore, 1) := by decide +kernel
theorem dX9_goesFromText_11 : decode cX9_goesFromText 11 = .ok (.sipush 720, 3) := by decide +kernel
theorem dX9_goesFromText_14 : decode cX9_goesFromText 14 = .ok (.bipush 11, 2) := by decide +kernel
theorem dX9_goesFromText_16 : decode cX9_goesFromText 16 = .ok (.iload_n 1, 1) := by decide +kernel
theorem dX9_goesFromText_17 : decode cX9_goesFromText 17 = .ok (.imul, 1) := by decide +kernel
theorem dX9_goesFromText_18 : decode cX9_goesFromText 18 = .ok (.iadd, 1) := by decide +kernel
theorem dX9_goesFromText_19 : decode cX9_goesFromText 19 = .ok (.istore_n 2, 1) := by decide +kernel
theorem dX9_goesFromText_20 : decode cX9_goesFromText 20 = .ok (.iload_n 2, 1) := by decide +kernel
theorem dX9_goesFromText_21 : decode cX9_goesFromText 21 = .ok (.sipush 720, 3) := by decide +kernel
theorem dX9_goesFromText_24 : decode cX9_goesFromText 24 = .ok (.bipush 11, 2) := by decide +kernel
theorem dX9_goesFromText_26 : decode cX9_goesFromText 26 = .ok (.aload_n 0, 1) := by decide +kernel
theorem dX9_goesFromText_27 : decode cX9_goesFromText 27 = .ok (.getfield 7, 3) := by decide +kernel
theorem dX9_goesFromText_30 : decode cX9_goesFromText 30 = .ok (.bipush 8, 2) := by decide +kernel
theorem dX9_goesFromText_32 : decode cX9_goesFromText 32 = .ok (.iaload, 1) := by decide +kernel
theorem dX9_goesFromText_33 : decode cX9_goesFromText 33 = .ok (.imul, 1) := by decide +kernel
theorem dX9_goesFromText_34 : decode cX9_goesFromText 34 = .ok (.iadd, 1) := by decide +kernel
theorem dX9_goesFromText_35 : decode cX9_goesFromText 35 = .ok (.if_icmp .ge 24, 3) := by decide +kernel
theorem dX9_goesFromText_38 : decode cX9_goesFromText 38 = .ok (.aload_n 0, 1) := by decide +kernel
theorem dX9_goesFromText_39 : decode cX9_goesFromText 39 = .ok (.getfield 7, 3) := by decide +kernel
theorem dX9_goesFromText_42 : decode cX9_goesFromText 42 = .ok (.iload_n 2, 1) := by decide +kernel
theorem dX9_goesFromText_43 : decode cX9_goesFromText 43 = .ok (.aload_n 0, 1) := by decide +kernel
theorem dX9_goesFromText_44 : decode cX9_goesFromText 44 = .ok (.getfield 7, 3) := by decide +kernel
theorem dX9_goesFromText_47 : decode cX9_goesFromText 47 = .ok (.iload_n 2, 1) := by decide +kernel
theorem dX9_goesFromText_48 : decode cX9_goesFromText 48 = .ok (.bipush 11, 2) := by decide +kernel
theorem dX9_goesFromText_50 : decode cX9_goesFromText 50 = .ok (.iadd, 1) := by decide +kernel
theorem dX9_goesFromText_51 : decode cX9_goesFromText 51 = .ok (.iaload, 1) := by decide +kernel
theorem dX9_goesFromText_52 : decode cX9_goesFromText 52 = .ok (.iastore, 1) := by decide +kernel
theorem dX9_goesFromText_53 : decode cX9_goesFromText 53 = .ok (.iinc 2 1, 3) := by decide +kernel
theorem dX9_goesFromText_56 : decode cX9_goesFromText 56 = .ok (.goto (-36), 3) := by decide +kernel
theorem dX9_goesFromText_59 : decode cX9_goesFromText 59 = .ok (.return_, 1) := by decide +kernel
theorem dX9_erase_0 : decode cX9_erase 0 = .ok (.aload_n 0, 1) := by decide +kernel
theorem dX9_erase_1 : decode cX9_erase 1 = .ok (.aload_n 0, 1) := by decide +kernel
theorem dX9_erase_2 : decode cX9_erase 2 = .ok (.getfield 7, 3) := by decide +kernel
theorem dX9_erase_5 : decode cX9_erase 5 = .ok (.bipush 6, 2) := by decide +kernel
theorem dX9_erase_7 : decode cX9_erase 7 = .ok (.iaload, 1) := by decide +kernel
theorem dX9_erase_8 : decode cX9_erase 8 = .ok (.ifCond .le 7, 3) := by decide +kernel
theorem dX9_erase_11 : decode cX9_erase 11 = .ok (.iconst 1, 1) := by decide +kernel
theorem dX9_erase_12 : decode cX9_erase 12 = .ok (.goto 4, 3) := by decide +kernel
theorem dX9_erase_15 : decode cX9_erase 15 = .ok (.iconst 0, 1) := by decide +kernel
theorem dX9_erase_16 : decode cX9_erase 16 = .ok (.iconst 1, 1) := by decide +kernel
theorem dX9_erase_17 : decode cX9_erase 17 = .ok (.invokevirtual 72, 3) := by decide +kernel
theorem dX9_erase_20 : decode cX9_erase 20 = .ok (.ifCond .ne 5, 3) := by decide +kernel
theorem dX9_erase_23 : decode cX9_erase 23 = .ok (.iconst 0, 1) := by decide +kernel
theorem dX9_erase_24 : decode cX9_erase 24 = .ok (.ireturn, 1) := by decide +kernel
theorem dX9_erase_25 : decode cX9_erase 25 = .ok (.aload_n 0, 1) := by decide +kernel
theorem dX9_erase_26 : decode cX9_erase 26 = .ok (.invokevirtual 97, 3) := by decide +kernel
theorem dX9_erase_29 : decode cX9_erase 29 = .ok (.aload_n 0, 1) := by decide +kernel
theorem dX9_erase_30 : decode cX9_erase 30 = .ok (.getfield 7, 3) := by decide +kernel
theorem dX9_erase_33 : decode cX9_erase 33 = .ok (.bipush 6, 2) := by decide +kernel
theorem dX9_erase_35 : decode cX9_erase 35 = .ok (.dup2, 1) := by decide +kernel
theorem dX9_erase_36 : decode cX9_erase 36 = .ok (.iaload, 1) := by decide +kernel
theorem dX9_erase_37 : decode cX9_erase 37 = .ok (.iconst 1, 1) := by decide +kernel
theorem dX9_erase_38 : decode cX9_erase 38 = .ok (.isub, 1) := by decide +kernel
theorem dX9_erase_39 : decode cX9_erase 39 = .ok (.iastore, 1) := by decide +kernel
theorem dX9_erase_40 : decode cX9_erase 40 = .ok (.aload_n 0, 1) := by decide +kernel
theorem dX9_erase_41 : decode cX9_erase 41 = .ok (.getfield 7, 3) := by decide +kernel
theorem dX9_erase_44 : decode cX9_erase 44 = .ok (.iconst 5, 1) := by decide +kernel
theorem dX9_erase_45 : decode cX9_erase 45 = .ok (.iconst (-1), 1) := by decide +kernel
theorem dX9_erase_46 : decode cX9_erase 46 = .ok (.iastore, 1) := by decide +kernel
theorem dX9_erase_47 : decode cX9_erase 47 = .ok (.aload_n 0, 1) := by decide +kernel
theorem dX9_erase_48 : decode cX9_erase 48 = .ok (.getfield 7, 3) := by decide +kernel
theorem dX9_erase_51 : decode cX9_erase 51 = .ok (.bipush 7, 2) := by decide +kernel
theorem dX9_erase_53 : decode cX9_erase 53 = .ok (.iconst 0, 1) := by decide +kernel
theorem dX9_erase_54 : decode cX9_erase 54 = .ok (.iastore, 1) := by decide +kernel
theorem dX9_erase_55 : decode cX9_erase 55 = .ok (.aload_n 0, 1) := by decide +kernel
theorem dX9_erase_56 : decode cX9_erase 56 = .ok (.getfield 7, 3) := by decide +kernel
theorem dX9_erase_59 : decode cX9_erase 59 = .ok (.bipush 6, 2) := by decide +kernel
theorem dX9_erase_61 : decode cX9_erase 61 = .ok (.iaload, 1) := by decide +kernel
theorem dX9_erase_62 : decode cX9_erase 62 = .ok (.ifCond .ne 33, 3) := by decide +kernel
theorem dX9_erase_65 : decode cX9_erase 65 = .ok (.aload_n 0, 1) := by decide +kernel
theorem dX9_erase_66 : decode cX9_erase 66 = .ok (.getfield 7, 3) := by decide +kernel
theorem dX9_erase_69 : decode cX9_erase 69 = .ok (.bipush 9, 2) := by decide +kernel
theorem dX9_erase_71 : decode cX9_erase 71 = .ok (.iaload, 1) := by decide +kernel
theorem dX9_erase_72 : decode cX9_erase 72 = .ok (.iconst (-1), 1) := by decide +kernel
theorem dX9_erase_73 : decode cX9_erase 73 = .ok (.if_icmp .eq 22, 3) := by decide +kernel
theorem dX9_erase_76 : decode cX9_erase 76 = .ok (.aload_n 0, 1) := by decide +kernel
theorem dX9_erase_77 : decode cX9_erase 77 = .ok (.aload_n 0, 1) := by decide +kernel
theorem dX9_erase_78 : decode cX9_erase 78 = .ok (.getfield 7, 3) := by decide +kernel
theorem dX9_erase_81 : decode cX9_erase 81 = .ok (.bipush 9, 2) := by decide +kernel
theorem dX9_erase_83 : decode cX9_erase 83 = .ok (.iaload, 1) := by decide +kernel
theorem dX9_erase_84 : decode cX9_erase 84 = .ok (.invokevirtual 110, 3) := by decide +kernel
theorem dX9_erase_87 : decode cX9_erase 87 = .ok (.aload_n 0, 1) := by decide +kernel
theorem dX9_erase_88 : decode cX9_erase 88 = .ok (.getfield 7, 3) := by decide +kernel
theorem dX9_erase_91 : decode cX9_erase 91 = .ok (.bipush 9, 2) := by decide +kernel
theorem dX9_erase_93 : decode cX9_erase 93 = .ok (.iconst (-1), 1) := by decide +kernel
theorem dX9_erase_94 : decode cX9_erase 94 = .ok (.iastore, 1) := by decide +kernel
theorem dX9_erase_95 : decode cX9_erase 95 = .ok (.aload_n 0, 1) := by decide +kernel
theorem dX9_erase_96 : decode cX9_erase 96 = .ok (.getfield 7, 3) := by decide +kernel
theorem dX9_erase_99 : decode cX9_erase 99 = .ok (.bipush 6, 2) := by decide +kernel
theorem dX9_erase_101 : decode cX9_erase 101 = .ok (.iaload, 1) := by decide +kernel
theorem dX9_erase_102 : decode cX9_erase 102 = .ok (.ireturn, 1) := by decide +kernel
theorem dX9_isShown_0 : decode cX9_isShown 0 = .ok (.aload_n 0, 1) := by decide +kernel
theorem dX9_isShown_1 : decode cX9_isShown 1 = .ok (.iload_n 1, 1) := by decide +kernel
theorem dX9_isShown_2 : decode cX9_isShown 2 = .ok (.iconst 0, 1) := by decide +kernel
theorem dX9_isShown_3 : decode cX9_isShown 3 = .ok (.invokevirtual 50, 3) := by decide +kernel
theorem dX9_isShown_6 : decode cX9_isShown 6 = .ok (.aload_n 0, 1) := by decide +kernel
theorem dX9_isShown_7 : decode cX9_isShown 7 = .ok (.getfield 92, 3) := by decide +kernel
theorem dX9_isShown_10 : decode cX9_isShown 10 = .ok (.if_icmp .ne 7, 3) := by decide +kernel
theorem dX9_isShown_13 : decode cX9_isShown 13 = .ok (.iconst 1, 1) := by decide +kernel
theorem dX9_isShown_14 : decode cX9_isShown 14 = .ok (.goto 4, 3) := by decide +kernel
theorem dX9_isShown_17 : decode cX9_isShown 17 = .ok (.iconst 0, 1) := by decide +kernel
theorem dX9_isShown_18 : decode cX9_isShown 18 = .ok (.istore_n 2, 1) := by decide +kernel
theorem dX9_isShown_19 : decode cX9_isShown 19 = .ok (.iconst 0, 1) := by decide +kernel
theorem dX9_isShown_20 : decode cX9_isShown 20 = .ok (.istore_n 3, 1) := by decide +kernel
theorem dX9_isShown_21 : decode cX9_isShown 21 = .ok (.iload_n 3, 1) := by decide +kernel
theorem dX9_isShown_22 : decode cX9_isShown 22 = .ok (.aload_n 0, 1) := by decide +kernel
theorem dX9_isShown_23 : decode cX9_isShown 23 = .ok (.getfield 92, 3) := by decide +kernel
theorem dX9_isShown_26 : decode cX9_isShown 26 = .ok (.if_icmp .ge 34, 3) := by decide +kernel
theorem dX9_isShown_29 : decode cX9_isShown 29 = .ok (.iload_n 2, 1) := by decide +kernel
theorem dX9_isShown_30 : decode cX9_isShown 30 = .ok (.ifCond .eq 30, 3) := by decide +kernel
theorem dX9_isShown_33 : decode cX9_isShown 33 = .ok (.aload_n 0, 1) := by decide +kernel
theorem dX9_isShown_34 : decode cX9_isShown 34 = .ok (.iload_n 1, 1) := by decide +kernel
theorem dX9_isShown_35 : decode cX9_isShown 35 = .ok (.iload_n 3, 1) := by decide +kernel
theorem dX9_isShown_36 : decode cX9_isShown 36 = .ok (.invokevirtual 53, 3) := by decide +kernel
theorem dX9_isShown_39 : decode cX9_isShown 39 = .ok (.aload_n 0, 1) := by decide +kernel
theorem dX9_isShown_40 : decode cX9_isShown 40 = .ok (.getfield 19, 3) := by decide +kernel
theorem dX9_isShown_43 : decode cX9_isShown 43 = .ok (.iload_n 3, 1) := by decide +kernel
theorem dX9_isShown_44 : decode cX9_isShown 44 = .ok (.iaload, 1) := by decide +kernel
theorem dX9_isShown_45 : decode cX9_isShown 45 = .ok (.if_icmp .ne 7, 3) := by decide +kernel
theorem dX9_isShown_48 : decode cX9_isShown 48 = .ok (.iconst 1, 1) := by decide +kernel
theorem dX9_isShown_49 : decode cX9_isShown 49 = .ok (.goto 4, 3) := by decide +kernel
theorem dX9_isShown_52 : decode cX9_isShown 52 = .ok (.iconst 0, 1) := by decide +kernel
theorem dX9_isShown_53 : decode cX9_isShown 53 = .ok (.istore_n 2, 1) := by decide +kernel
theorem dX9_isShown_54 : decode cX9_isShown 54 = .ok (.iinc 3 1, 3) := by decide +kernel
theorem dX9_isShown_57 : decode cX9_isShown 57 = .ok (.goto (-36), 3) := by decide +kernel
theorem dX9_isShown_60 : decode cX9_isShown 60 = .ok (.iload_n 2, 1) := by decide +kernel
theorem dX9_isShown_61 : decode cX9_isShown 61 = .ok (.ireturn, 1) := by decide +kernel
theorem dX9_shownWord_0 : decode cX9_shownWord 0 = .ok (.iconst (-1), 1) := by decide +kernel
theorem dX9_shownWord_1 : decode cX9_shownWord 1 = .ok (.istore_n 1, 1) := by decide +kernel
theorem dX9_shownWord_2 : decode cX9_shownWord 2 = .ok (.iconst 0, 1) := by decide +kernel
theorem dX9_shownWord_3 : decode cX9_shownWord 3 = .ok (.istore_n 2, 1) := by decide +kernel
theorem dX9_shownWord_4 : decode cX9_shownWord 4 = .ok (.iload_n 2, 1) := by decide +kernel
theorem dX9_shownWord_5 : decode cX9_shownWord 5 = .ok (.aload_n 0, 1) := by decide +kernel
theorem dX9_shownWord_6 : decode cX9_shownWord 6 = .ok (.getfield 7, 3) := by decide +kernel
theorem dX9_shownWord_9 : decode cX9_shownWord 9 = .ok (.iconst 0, 1) := by decide +kernel
theorem dX9_shownWord_10 : decode cX9_shownWord 10 = .ok (.iaload, 1) := by decide +kernel
theorem dX9_shownWord_11 : decode cX9_shownWord 11 = .ok (.if_icmp .ge 23, 3) := by decide +kernel
theorem dX9_shownWord_14 : decode cX9_shownWord 14 = .ok (.aload_n 0, 1) := by decide +kernel
theorem dX9_shownWord_15 : decode cX9_shownWord 15 = .ok (.iload_n 2, 1) := by decide +kernel
theorem dX9_shownWord_16 : decode cX9_shownWord 16 = .ok (.invokevirtual 114, 3) := by decide +kernel
theorem dX9_shownWord_19 : decode cX9_shownWord 19 = .ok (.ifCond .eq 7, 3) := by decide +kernel
theorem dX9_shownWord_22 : decode cX9_shownWord 22 = .ok (.iload_n 2, 1) := by decide +kernel
theorem dX9_shownWord_23 : decode cX9_shownWord 23 = .ok (.goto 4, 3) := by decide +kernel
theorem dX9_shownWord_26 : decode cX9_shownWord 26 = .ok (.iload_n 1, 1) := by decide +kernel
theorem dX9_shownWord_27 : decode cX9_shownWord 27 = .ok (.istore_n 1, 1) := by decide +kernel
theorem dX9_shownWord_28 : decode cX9_shownWord 28 = .ok (.iinc 2 1, 3) := by decide +kernel
theorem dX9_shownWord_31 : decode cX9_shownWord 31 = .ok (.goto (-27), 3) := by decide +kernel
theorem dX9_shownWord_34 : decode cX9_shownWord 34 = .ok (.iload_n 1, 1) := by decide +kernel
theorem dX9_shownWord_35 : decode cX9_shownWord 35 = .ok (.ireturn, 1) := by decide +kernel
theorem dX9_lowestAdded_0 : decode cX9_lowestAdded 0 = .ok (.iconst (-1), 1) := by decide +kernel
theorem dX9_lowestAdded_1 : decode cX9_lowestAdded 1 = .ok (.istore_n 1, 1) := by decide +kernel
theorem dX9_lowestAdded_2 : decode cX9_lowestAdded 2 = .ok (.iconst 0, 1) := by decide +kernel
theorem dX9_lowestAdded_3 : decode cX9_lowestAdded 3 = .ok (.istore_n 2, 1) := by decide +kernel
theorem dX9_lowestAdded_4 : decode cX9_lowestAdded 4 = .ok (.iload_n 2, 1) := by decide +kernel
theorem dX9_lowestAdded_5 : decode cX9_lowestAdded 5 = .ok (.aload_n 0, 1) := by decide +kernel
theorem dX9_lowestAdded_6 : decode cX9_lowestAdded 6 = .ok (.getfield 7, 3) := by decide +kernel
theorem dX9_lowestAdded_9 : decode cX9_lowestAdded 9 = .ok (.iconst 0, 1) := by decide +kernel
theorem dX9_lowestAdded_10 : decode cX9_lowestAdded 10 = .ok (.iaload, 1) := by decide +kernel
theorem dX9_lowestAdded_11 : decode cX9_lowestAdded 11 = .ok (.if_icmp .ge 49, 3) := by decide +kernel
theorem dX9_lowestAdded_14 : decode cX9_lowestAdded 14 = .ok (.iload_n 1, 1) := by decide +kernel
theorem dX9_lowestAdded_15 : decode cX9_lowestAdded 15 = .ok (.iconst (-1), 1) := by decide +kernel
theorem dX9_lowestAdded_16 : decode cX9_lowestAdded 16 = .ok (.if_icmp .eq 12, 3) := by decide +kernel
theorem dX9_lowestAdded_19 : decode cX9_lowestAdded 19 = .ok (.aload_n 0, 1) := by decide +kernel
theorem dX9_lowestAdded_20 : decode cX9_lowestAdded 20 = .ok (.iload_n 1, 1) := by decide +kernel
theorem dX9_lowestAdded_21 : decode cX9_lowestAdded 21 = .ok (.iload_n 2, 1) := by decide +kernel
theorem dX9_lowestAdded_22 : decode cX9_lowestAdded 22 = .ok (.invokevirtual 59, 3) := by decide +kernel
theorem dX9_lowestAdded_25 : decode cX9_lowestAdded 25 = .ok (.ifCond .eq 7, 3) := by decide +kernel
theorem dX9_lowestAdded_28 : decode cX9_lowestAdded 28 = .ok (.iconst 1, 1) := by decide +kernel
theorem dX9_lowestAdded_29 : decode cX9_lowestAdded 29 = .ok (.goto 4, 3) := by decide +kernel
theorem dX9_lowestAdded_32 : decode cX9_lowestAdded 32 = .ok (.iconst 0, 1) := by decide +kernel
theorem dX9_lowestAdded_33 : decode cX9_lowestAdded 33 = .ok (.istore_n 3, 1) := by decide +kernel
theorem dX9_lowestAdded_34 : decode cX9_lowestAdded 34 = .ok (.aload_n 0, 1) := by decide +kernel
theorem dX9_lowestAdded_35 : decode cX9_lowestAdded 35 = .ok (.iload_n 2, 1) := by decide +kernel
theorem dX9_lowestAdded_36 : decode cX9_lowestAdded 36 = .ok (.iconst 3, 1) := by decide +kernel
theorem dX9_lowestAdded_37 : decode cX9_lowestAdded 37 = .ok (.invokevirtual 50, 3) := by decide +kernel
theorem dX9_lowestAdded_40 : decode cX9_lowestAdded 40 = .ok (.iconst 1, 1) := by decide +kernel
theorem dX9_lowestAdded_41 : decode cX9_lowestAdded 41 = .ok (.if_icmp .ne 11, 3) := by decide +kernel
theorem dX9_lowestAdded_44 : decode cX9_lowestAdded 44 = .ok (.iload_n 3, 1) := by decide +kernel
theorem dX9_lowestAdded_45 : decode cX9_lowestAdded 45 = .ok (.ifCond .eq 7, 3) := by decide +kernel
theorem dX9_lowestAdded_48 : decode cX9_lowestAdded 48 = .ok (.iload_n 2, 1) := by decide +kernel
theorem dX9_lowestAdded_49 : decode cX9_lowestAdded 49 = .ok (.goto 4, 3) := by decide +kernel
theorem dX9_lowestAdded_52 : decode cX9_lowestAdded 52 = .ok (.iload_n 1, 1) := by decide +kernel
theorem dX9_lowestAdded_53 : decode cX9_lowestAdded 53 = .ok (.istore_n 1, 1) := by decide +kernel
theorem dX9_lowestAdded_54 : decode cX9_lowestAdded 54 = .ok (.iinc 2 1, 3) := by decide +kernel
theorem dX9_lowestAdded_57 : decode cX9_lowestAdded 57 = .ok (.goto (-53), 3) := by decide +kernel
theorem dX9_lowestAdded_60 : decode cX9_lowestAdded 60 = .ok (.iload_n 1, 1) := by decide +kernel
theorem dX9_lowestAdded_61 : decode cX9_lowestAdded 61 = .ok (.ireturn, 1) := by decide +kernel
theorem dX9_adds_0 : decode cX9_adds 0 = .ok (.aload_n 0, 1) := by decide +kernel
theorem dX9_adds_1 : decode cX9_adds 1 = .ok (.getfield 7, 3) := by decide +kernel
theorem dX9_adds_4 : decode cX9_adds 4 = .ok (.iconst 0, 1) := by decide +kernel
theorem dX9_adds_5 : decode cX9_adds 5 = .ok (.iaload, 1) := by decide +kernel
theorem dX9_adds_6 : decode cX9_adds 6 = .ok (.bipush 50, 2) := by decide +kernel
theorem dX9_adds_8 : decode cX9_adds 8 = .ok (.if_icmp .ne 10, 3) := by decide +kernel
theorem dX9_adds_11 : decode cX9_adds 11 = .ok (.aload_n 0, 1) := by decide +kernel
theorem dX9_adds_12 : decode cX9_adds 12 = .ok (.invokevirtual 117, 3) := by decide +kernel
theorem dX9_adds_15 : decode cX9_adds 15 = .ok (.goto 4, 3) := by decide +kernel
theorem dX9_adds_18 : decode cX9_adds 18 = .ok (.iconst (-1), 1) := by decide +kernel
theorem dX9_adds_19 : decode cX9_adds 19 = .ok (.istore_n 2, 1) := by decide +kernel
theorem dX9_adds_20 : decode cX9_adds 20 = .ok (.iload_n 2, 1) := by decide +kernel
theorem dX9_adds_21 : decode cX9_adds 21 = .ok (.iconst (-1), 1) := by decide +kernel
theorem dX9_adds_22 : decode cX9_adds 22 = .ok (.if_icmp .eq 8, 3) := by decide +kernel
theorem dX9_adds_25 : decode cX9_adds 25 = .ok (.aload_n 0, 1) := by decide +kernel
theorem dX9_adds_26 : decode cX9_adds 26 = .ok (.iload_n 2, 1) := by decide +kernel
theorem dX9_adds_27 : decode cX9_adds 27 = .ok (.invokevirtual 120, 3) := by decide +kernel
theorem dX9_adds_30 : decode cX9_adds 30 = .ok (.aload_n 0, 1) := by decide +kernel
theorem dX9_adds_31 : decode cX9_adds 31 = .ok (.getfield 7, 3) := by decide +kernel
theorem dX9_adds_34 : decode cX9_adds 34 = .ok (.iconst 0, 1) := by decide +kernel
theorem dX9_adds_35 : decode cX9_adds 35 = .ok (.iaload, 1) := by decide +kernel
theorem dX9_adds_36 : decode cX9_adds 36 = .ok (.bipush 50, 2) := by decide +kernel
theorem dX9_adds_38 : decode cX9_adds 38 = .ok (.if_icmp .ge 105, 3) := by decide +kernel
theorem dX9_adds_41 : decode cX9_adds 41 = .ok (.aload_n 0, 1) := by decide +kernel
theorem dX9_adds_42 : decode cX9_adds 42 = .ok (.getfield 7, 3) := by decide +kernel
theorem dX9_adds_45 : decode cX9_adds 45 = .ok (.iconst 0, 1) := by decide +kernel
theorem dX9_adds_46 : decode cX9_adds 46 = .ok (.iaload, 1) := by decide +kernel
theorem dX9_adds_47 : decode cX9_adds 47 = .ok (.istore_n 3, 1) := by decide +kernel
theorem dX9_adds_48 : decode cX9_adds 48 = .ok (.aload_n 0, 1) := by decide +kernel
theorem dX9_adds_49 : decode cX9_adds 49 = .ok (.getfield 7, 3) := by decide +kernel
theorem dX9_adds_52 : decode cX9_adds 52 = .ok (.iconst 0, 1) := by decide +kernel
theorem dX9_adds_53 : decode cX9_adds 53 = .ok (.dup2, 1) := by decide +kernel
theorem dX9_adds_54 : decode cX9_adds 54 = .ok (.iaload, 1) := by decide +kernel
theorem dX9_adds_55 : decode cX9_adds 55 = .ok (.iconst 1, 1) := by decide +kernel
theorem dX9_adds_56 : decode cX9_adds 56 = .ok (.iadd, 1) := by decide +kernel
theorem dX9_adds_57 : decode cX9_adds 57 = .ok (.iastore, 1) := by decide +kernel
theorem dX9_adds_58 : decode cX9_adds 58 = .ok (.aload_n 0, 1) := by decide +kernel
theorem dX9_adds_59 : decode cX9_adds 59 = .ok (.getfield 7, 3) := by decide +kernel
theorem dX9_adds_62 : decode cX9_adds 62 = .ok (.iload_n 3, 1) := by decide +kernel
theorem dX9_adds_63 : decode cX9_adds 63 = .ok (.iconst 0, 1) := by decide +kernel
theorem dX9_adds_64 : decode cX9_adds 64 = .ok (.invokestatic 42, 3) := by decide +kernel
theorem dX9_adds_67 : decode cX9_adds 67 = .ok (.aload_n 0, 1) := by decide +kernel
theorem dX9_adds_68 : decode cX9_adds 68 = .ok (.getfield 92, 3) := by decide +kernel
theorem dX9_adds_71 : decode cX9_adds 71 = .ok (.iastore, 1) := by decide +kernel
theorem dX9_adds_72 : decode cX9_adds 72 = .ok (.aload_n 0, 1) := by decide +kernel
theorem dX9_adds_73 : decode cX9_adds 73 = .ok (.getfield 7, 3) := by decide +kernel
theorem dX9_adds_76 : decode cX9_adds 76 = .ok (.iload_n 3, 1) := by decide +kernel
theorem dX9_adds_77 : decode cX9_adds 77 = .ok (.iconst 1, 1) := by decide +kernel
theorem dX9_adds_78 : decode cX9_adds 78 = .ok (.invokestatic 42, 3) := by decide +kernel
theorem dX9_adds_81 : decode cX9_adds 81 = .ok (.iconst 1, 1) := by decide +kernel
theorem dX9_adds_82 : decode cX9_adds 82 = .ok (.iastore, 1) := by decide +kernel
theorem dX9_adds_83 : decode cX9_adds 83 = .ok (.aload_n 0, 1) := by decide +kernel
theorem dX9_adds_84 : decode cX9_adds 84 = .ok (.getfield 7, 3) := by decide +kernel
theorem dX9_adds_87 : decode cX9_adds 87 = .ok (.iload_n 3, 1) := by decide +kernel
theorem dX9_adds_88 : decode cX9_adds 88 = .ok (.iconst 2, 1) := by decide +kernel
theorem dX9_adds_89 : decode cX9_adds 89 = .ok (.invokestatic 42, 3) := by decide +kernel
theorem dX9_adds_92 : decode cX9_adds 92 = .ok (.iload_n 1, 1) := by decide +kernel
theorem dX9_adds_93 : decode cX9_adds 93 = .ok (.iastore, 1) := by decide +kernel
theorem dX9_adds_94 : decode cX9_adds 94 = .ok (.aload_n 0, 1) := by decide +kernel
theorem dX9_adds_95 : decode cX9_adds 95 = .ok (.getfield 7, 3) := by decide +kernel
theorem dX9_adds_98 : decode cX9_adds 98 = .ok (.iload_n 3, 1) := by decide +kernel
theorem dX9_adds_99 : decode cX9_adds 99 = .ok (.iconst 3, 1) := by decide +kernel
theorem dX9_adds_100 : decode cX9_adds 100 = .ok (.invokestatic 42, 3) := by decide +kernel
theorem dX9_adds_103 : decode cX9_adds 103 = .ok (.iconst 1, 1) := by decide +kernel
theorem dX9_adds_104 : decode cX9_adds 104 = .ok (.iastore, 1) := by decide +kernel
theorem dX9_adds_105 : decode cX9_adds 105 = .ok (.iconst 0, 1) := by decide +kernel
theorem dX9_adds_106 : decode cX9_adds 106 = .ok (.istore 4, 2) := by decide +kernel
theorem dX9_adds_108 : decode cX9_adds 108 = .ok (.iload 4, 2) := by decide +kernel
theorem dX9_adds_110 : decode cX9_adds 110 = .ok (.aload_n 0, 1) := by decide +kernel
theorem dX9_adds_111 : decode cX9_adds 111 = .ok (.getfield 92, 3) := by decide +kernel
theorem dX9_adds_114 : decode cX9_adds 114 = .ok (.if_icmp .ge 29, 3) := by decide +kernel
theorem dX9_adds_117 : decode cX9_adds 117 = .ok (.aload_n 0, 1) := by decide +kernel
theorem dX9_adds_118 : decode cX9_adds 118 = .ok (.getfield 7, 3) := by decide +kernel
theorem dX9_adds_121 : decode cX9_adds 121 = .ok (.iload_n 3, 1) := by decide +kernel
theorem dX9_adds_122 : decode cX9_adds 122 = .ok (.iconst 4, 1) := by decide +kernel
theorem dX9_adds_123 : decode cX9_adds 123 = .ok (.iload 4, 2) := by decide +kernel
theorem dX9_adds_125 : decode cX9_adds 125 = .ok (.iadd, 1) := by decide +kernel
theorem dX9_adds_126 : decode cX9_adds 126 = .ok (.invokestatic 42, 3) := by decide +kernel
theorem dX9_adds_129 : decode cX9_adds 129 = .ok (.aload_n 0, 1) := by decide +kernel
theorem dX9_adds_130 : decode cX9_adds 130 = .ok (.getfield 19, 3) := by decide +kernel
theorem dX9_adds_133 : decode cX9_adds 133 = .ok (.iload 4, 2) := by decide +kernel
theorem dX9_adds_135 : decode cX9_adds 135 = .ok (.iaload, 1) := by decide +kernel
theorem dX9_adds_136 : decode cX9_adds 136 = .ok (.iastore, 1) := by decide +kernel
theorem dX9_adds_137 : decode cX9_adds 137 = .ok (.iinc 4 1, 3) := by decide +kernel
theorem dX9_adds_140 : decode cX9_adds 140 = .ok (.goto (-32), 3) := by decide +kernel
theorem dX9_adds_143 : decode cX9_adds 143 = .ok (.return_, 1) := by decide +kernel
theorem dX9_ages_0 : decode cX9_ages 0 = .ok (.aload_n 0, 1) := by decide +kernel
theorem dX9_ages_1 : decode cX9_ages 1 = .ok (.getfield 7, 3) := by decide +kernel
theorem dX9_ages_4 : decode cX9_ages 4 = .ok (.iconst 0, 1) := by decide +kernel
theorem dX9_ages_5 : decode cX9_ages 5 = .ok (.iaload, 1) := by decide +kernel
theorem dX9_ages_6 : decode cX9_ages 6 = .ok (.iconst 1, 1) := by decide +kernel
theorem dX9_ages_7 : decode cX9_ages 7 = .ok (.isub, 1) := by decide +kernel
theorem dX9_ages_8 : decode cX9_ages 8 = .ok (.istore_n 1, 1) := by decide +kernel
theorem dX9_ages_9 : decode cX9_ages 9 = .ok (.iload_n 1, 1) := by decide +kernel
theorem dX9_ages_10 : decode cX9_ages 10 = .ok (.ifCond .lt 55, 3) := by decide +kernel
theorem dX9_ages_13 : decode cX9_ages 13 = .ok (.aload_n 0, 1) := by decide +kernel
theorem dX9_ages_14 : decode cX9_ages 14 = .ok (.iload_n 1, 1) := by decide +kernel
theorem dX9_ages_15 : decode cX9_ages 15 = .ok (.iconst 3, 1) := by decide +kernel
theorem dX9_ages_16 : decode cX9_ages 16 = .ok (.invokevirtual 50, 3) := by decide +kernel
theorem dX9_ages_19 : decode cX9_ages 19 = .ok (.iconst 1, 1) := by decide +kernel
theorem dX9_ages_20 : decode cX9_ages 20 = .ok (.if_icmp .ne 39, 3) := by decide +kernel
theorem dX9_ages_23 : decode cX9_ages 23 = .ok (.aload_n 0, 1) := by decide +kernel
theorem dX9_ages_24 : decode cX9_ages 24 = .ok (.iload_n 1, 1) := by decide +kernel
theorem dX9_ages_25 : decode cX9_ages 25 = .ok (.invokevirtual 114, 3) := by decide +kernel
theorem dX9_ages_28 : decode cX9_ages 28 = .ok (.ifCond .ne 31, 3) := by decide +kernel
theorem dX9_ages_31 : decode cX9_ages 31 = .ok (.aload_n 0, 1) := by decide +kernel
theorem dX9_ages_32 : decode cX9_ages 32 = .ok (.getfield 7, 3) := by decide +kernel
theorem dX9_ages_35 : decode cX9_ages 35 = .ok (.iload_n 1, 1) := by decide +kernel
theorem dX9_ages_36 : decode cX9_ages 36 = .ok (.iconst 1, 1) := by decide +kernel
theorem dX9_ages_37 : decode cX9_ages 37 = .ok (.invokestatic 42, 3) := by decide +kernel
theorem dX9_ages_40 : decode cX9_ages 40 = .ok (.dup2, 1) := by decide +kernel
theorem dX9_ages_41 : decode cX9_ages 41 = .ok (.iaload, 1) := by decide +kernel
theorem dX9_ages_42 : decode cX9_ages 42 = .ok (.iconst 1, 1) := by decide +kernel
theorem dX9_ages_43 : decode cX9_ages 43 = .ok (.isub, 1) := by decide +kernel
theorem dX9_ages_44 : decode cX9_ages 44 = .ok (.iastore, 1) := by decide +kernel
theorem dX9_ages_45 : decode cX9_ages 45 = .ok (.aload_n 0, 1) := by decide +kernel
theorem dX9_ages_46 : decode cX9_ages 46 = .ok (.iload_n 1, 1) := by decide +kernel
theorem dX9_ages_47 : decode cX9_ages 47 = .ok (.iconst 1, 1) := by decide +kernel
theorem dX9_ages_48 : decode cX9_ages 48 = .ok (.invokevirtual 50, 3) := by decide +kernel
theorem dX9_ages_51 : decode cX9_ages 51 = .ok (.ifCond .ne 8, 3) := by decide +kernel
theorem dX9_ages_54 : decode cX9_ages 54 = .ok (.aload_n 0, 1) := by decide +kernel
theorem dX9_ages_55 : decode cX9_ages 55 = .ok (.iload_n 1, 1) := by decide +kernel
theorem dX9_ages_56 : decode cX9_ages 56 = .ok (.invokevirtual 120, 3) := by decide +kernel
theorem dX9_ages_59 : decode cX9_ages 59 = .ok (.iinc 1 (-1), 3) := by decide +kernel
theorem dX9_ages_62 : decode cX9_ages 62 = .ok (.goto (-53), 3) := by decide +kernel
theorem dX9_ages_65 : decode cX9_ages 65 = .ok (.return_, 1) := by decide +kernel
theorem dX9_uses_0 : decode cX9_uses 0 = .ok (.aload_n 0, 1) := by decide +kernel
theorem dX9_uses_1 : decode cX9_uses 1 = .ok (.getfield 7, 3) := by decide +kernel
theorem dX9_uses_4 : decode cX9_uses 4 = .ok (.iconst 1, 1) := by decide +kernel
theorem dX9_uses_5 : decode cX9_uses 5 = .ok (.dup2, 1) := by decide +kernel
theorem dX9_uses_6 : decode cX9_uses 6 = .ok (.iaload, 1) := by decide +kernel
theorem dX9_uses_7 : decode cX9_uses 7 = .ok (.iconst 1, 1) := by decide +kernel
theorem dX9_uses_8 : decode cX9_uses 8 = .ok (.iadd, 1) := by decide +kernel
theorem dX9_uses_9 : decode cX9_uses 9 = .ok (.iastore, 1) := by decide +kernel
theorem dX9_uses_10 : decode cX9_uses 10 = .ok (.aload_n 0, 1) := by decide +kernel
theorem dX9_uses_11 : decode cX9_uses 11 = .ok (.getfield 7, 3) := by decide +kernel
theorem dX9_uses_14 : decode cX9_uses 14 = .ok (.iconst 1, 1) := by decide +kernel
theorem dX9_uses_15 : decode cX9_uses 15 = .ok (.iaload, 1) := by decide +kernel
theorem dX9_uses_16 : decode cX9_uses 16 = .ok (.istore_n 1, 1) := by decide +kernel
theorem dX9_uses_17 : decode cX9_uses 17 = .ok (.aload_n 0, 1) := by decide +kernel
theorem dX9_uses_18 : decode cX9_uses 18 = .ok (.invokevirtual 123, 3) := by decide +kernel
theorem dX9_uses_21 : decode cX9_uses 21 = .ok (.istore_n 2, 1) := by decide +kernel
theorem dX9_uses_22 : decode cX9_uses 22 = .ok (.iload_n 2, 1) := by decide +kernel
theorem dX9_uses_23 : decode cX9_uses 23 = .ok (.iconst (-1), 1) := by decide +kernel
theorem dX9_uses_24 : decode cX9_uses 24 = .ok (.if_icmp .ne 11, 3) := by decide +kernel
theorem dX9_uses_27 : decode cX9_uses 27 = .ok (.aload_n 0, 1) := by decide +kernel
theorem dX9_uses_28 : decode cX9_uses 28 = .ok (.iload_n 1, 1) := by decide +kernel
theorem dX9_uses_29 : decode cX9_uses 29 = .ok (.invokevirtual 126, 3) := by decide +kernel
theorem dX9_uses_32 : decode cX9_uses 32 = .ok (.goto 44, 3) := by decide +kernel
theorem dX9_uses_35 : decode cX9_uses 35 = .ok (.aload_n 0, 1) := by decide +kernel
theorem dX9_uses_36 : decode cX9_uses 36 = .ok (.getfield 7, 3) := by decide +kernel
theorem dX9_uses_39 : decode cX9_uses 39 = .ok (.iload_n 2, 1) := by decide +kernel
theorem dX9_uses_40 : decode cX9_uses 40 = .ok (.iconst 1, 1) := by decide +kernel
theorem dX9_uses_41 : decode cX9_uses 41 = .ok (.invokestatic 42, 3) := by decide +kernel
theorem dX9_uses_44 : decode cX9_uses 44 = .ok (.dup2, 1) := by decide +kernel
theorem dX9_uses_45 : decode cX9_uses 45 = .ok (.iaload, 1) := by decide +kernel
theorem dX9_uses_46 : decode cX9_uses 46 = .ok (.aload_n 0, 1) := by decide +kernel
theorem dX9_uses_47 : decode cX9_uses 47 = .ok (.iload_n 2, 1) := by decide +kernel
theorem dX9_uses_48 : decode cX9_uses 48 = .ok (.iconst 1, 1) := by decide +kernel
theorem dX9_uses_49 : decode cX9_uses 49 = .ok (.invokevirtual 50, 3) := by decide +kernel
theorem dX9_uses_52 : decode cX9_uses 52 = .ok (.sipush 999, 3) := by decide +kernel
theorem dX9_uses_55 : decode cX9_uses 55 = .ok (.if_icmp .ge 7, 3) := by decide +kernel
theorem dX9_uses_58 : decode cX9_uses 58 = .ok (.iconst 1, 1) := by decide +kernel
theorem dX9_uses_59 : decode cX9_uses 59 = .ok (.goto 4, 3) := by decide +kernel
theorem dX9_uses_62 : decode cX9_uses 62 = .ok (.iconst 0, 1) := by decide +kernel
theorem dX9_uses_63 : decode cX9_uses 63 = .ok (.iadd, 1) := by decide +kernel
theorem dX9_uses_64 : decode cX9_uses 64 = .ok (.iastore, 1) := by decide +kernel
theorem dX9_uses_65 : decode cX9_uses 65 = .ok (.aload_n 0, 1) := by decide +kernel
theorem dX9_uses_66 : decode cX9_uses 66 = .ok (.getfield 7, 3) := by decide +kernel
theorem dX9_uses_69 : decode cX9_uses 69 = .ok (.iload_n 2, 1) := by decide +kernel
theorem dX9_uses_70 : decode cX9_uses 70 = .ok (.iconst 2, 1) := by decide +kernel
theorem dX9_uses_71 : decode cX9_uses 71 = .ok (.invokestatic 42, 3) := by decide +kernel
theorem dX9_uses_74 : decode cX9_uses 74 = .ok (.iload_n 1, 1) := by decide +kernel
theorem dX9_uses_75 : decode cX9_uses 75 = .ok (.iastore, 1) := by decide +kernel
theorem dX9_uses_76 : decode cX9_uses 76 = .ok (.iload_n 1, 1) := by decide +kernel
theorem dX9_uses_77 : decode cX9_uses 77 = .ok (.aload_n 0, 1) := by decide +kernel
theorem dX9_uses_78 : decode cX9_uses 78 = .ok (.getfield 7, 3) := by decide +kernel
theorem dX9_uses_81 : decode cX9_uses 81 = .ok (.iconst 2, 1) := by decide +kernel
theorem dX9_uses_82 : decode cX9_uses 82 = .ok (.iaload, 1) := by decide +kernel
theorem dX9_uses_83 : decode cX9_uses 83 = .ok (.irem, 1) := by decide +kernel
theorem dX9_uses_84 : decode cX9_uses 84 = .ok (.ifCond .ne 7, 3) := by decide +kernel
theorem dX9_uses_87 : decode cX9_uses 87 = .ok (.aload_n 0, 1) := by decide +kernel
theorem dX9_uses_88 : decode cX9_uses 88 = .ok (.invokevirtual 129, 3) := by decide +kernel
theorem dX9_uses_91 : decode cX9_uses 91 = .ok (.return_, 1) := by decide +kernel
theorem dX9_accept_0 : decode cX9_accept 0 = .ok (.aload_n 0, 1) := by decide +kernel
theorem dX9_accept_1 : decode cX9_accept 1 = .ok (.aload_n 0, 1) := by decide +kernel
theorem dX9_accept_2 : decode cX9_accept 2 = .ok (.getfield 7, 3) := by decide +kernel
theorem dX9_accept_5 : decode cX9_accept 5 = .ok (.bipush 6, 2) := by decide +kernel
theorem dX9_accept_7 : decode cX9_accept 7 = .ok (.iaload, 1) := by decide +kernel
theorem dX9_accept_8 : decode cX9_accept 8 = .ok (.ifCond .le 30, 3) := by decide +kernel
theorem dX9_accept_11 : decode cX9_accept 11 = .ok (.aload_n 0, 1) := by decide +kernel
theorem dX9_accept_12 : decode cX9_accept 12 = .ok (.getfield 7, 3) := by decide +kernel
theorem dX9_accept_15 : decode cX9_accept 15 = .ok (.bipush 9, 2) := by decide +kernel
theorem dX9_accept_17 : decode cX9_accept 17 = .ok (.iaload, 1) := by decide +kernel
theorem dX9_accept_18 : decode cX9_accept 18 = .ok (.iconst (-1), 1) := by decide +kernel
theorem dX9_accept_19 : decode cX9_accept 19 = .ok (.if_icmp .ne 15, 3) := by decide +kernel
theorem dX9_accept_22 : decode cX9_accept 22 = .ok (.aload_n 0, 1) := by decide +kernel
theorem dX9_accept_23 : decode cX9_accept 23 = .ok (.getfield 7, 3) := by decide +kernel
theorem dX9_accept_26 : decode cX9_accept 26 = .ok (.bipush 8, 2) := by decide +kernel
theorem dX9_accept_28 : decode cX9_accept 28 = .ok (.iaload, 1) := by decide +kernel
theorem dX9_accept_29 : decode cX9_accept 29 = .ok (.bipush 30, 2) := by decide +kernel
theorem dX9_accept_31 : decode cX9_accept 31 = .ok (.if_icmp .ge 7, 3) := by decide +kernel
theorem dX9_accept_34 : decode cX9_accept 34 = .ok (.iconst 1, 1) := by decide +kernel
theorem dX9_accept_35 : decode cX9_accept 35 = .ok (.goto 4, 3) := by decide +kernel
theorem dX9_accept_38 : decode cX9_accept 38 = .ok (.iconst 0, 1) := by decide +kernel
theorem dX9_accept_39 : decode cX9_accept 39 = .ok (.iconst 1, 1) := by decide +kernel
theorem dX9_accept_40 : decode cX9_accept 40 = .ok (.invokevirtual 72, 3) := by decide +kernel
theorem dX9_accept_43 : decode cX9_accept 43 = .ok (.ifCond .ne 5, 3) := by decide +kernel
theorem dX9_accept_46 : decode cX9_accept 46 = .ok (.iconst 0, 1) := by decide +kernel
theorem dX9_accept_47 : decode cX9_accept 47 = .ok (.ireturn, 1) := by decide +kernel
theorem dX9_accept_48 : decode cX9_accept 48 = .ok (.aload_n 0, 1) := by decide +kernel
theorem dX9_accept_49 : decode cX9_accept 49 = .ok (.invokevirtual 97, 3) := by decide +kernel
theorem dX9_accept_52 : decode cX9_accept 52 = .ok (.aload_n 0, 1) := by decide +kernel
theorem dX9_accept_53 : decode cX9_accept 53 = .ok (.invokevirtual 107, 3) := by decide +kernel
theorem dX9_accept_56 : decode cX9_accept 56 = .ok (.aload_n 0, 1) := by decide +kernel
theorem dX9_accept_57 : decode cX9_accept 57 = .ok (.invokevirtual 132, 3) := by decide +kernel
theorem dX9_accept_60 : decode cX9_accept 60 = .ok (.aload_n 0, 1) := by decide +kernel
theorem dX9_accept_61 : decode cX9_accept 61 = .ok (.getfield 7, 3) := by decide +kernel
theorem dX9_accept_64 : decode cX9_accept 64 = .ok (.bipush 9, 2) := by decide +kernel
theorem dX9_accept_66 : decode cX9_accept 66 = .ok (.iaload, 1) := by decide +kernel
theorem dX9_accept_67 : decode cX9_accept 67 = .ok (.iconst (-1), 1) := by decide +kernel
theorem dX9_accept_68 : decode cX9_accept 68 = .ok (.if_icmp .eq 13, 3) := by decide +kernel
theorem dX9_accept_71 : decode cX9_accept 71 = .ok (.aload_n 0, 1) := by decide +kernel
theorem dX9_accept_72 : decode cX9_accept 72 = .ok (.getfield 7, 3) := by decide +kernel
theorem dX9_accept_75 : decode cX9_accept 75 = .ok (.bipush 9, 2) := by decide +kernel
theorem dX9_accept_77 : decode cX9_accept 77 = .ok (.iaload, 1) := by decide +kernel
theorem dX9_accept_78 : decode cX9_accept 78 = .ok (.goto 10, 3) := by decide +kernel
theorem dX9_accept_81 : decode cX9_accept 81 = .ok (.aload_n 0, 1) := by decide +kernel
theorem dX9_accept_82 : decode cX9_accept 82 = .ok (.getfield 7, 3) := by decide +kernel
theorem dX9_accept_85 : decode cX9_accept 85 = .ok (.bipush 8, 2) := by decide +kernel
theorem dX9_accept_87 : decode cX9_accept 87 = .ok (.iaload, 1) := by decide +kernel
theorem dX9_accept_88 : decode cX9_accept 88 = .ok (.istore_n 1, 1) := by decide +kernel
theorem dX9_accept_89 : decode cX9_accept 89 = .ok (.aload_n 0, 1) := by decide +kernel
theorem dX9_accept_90 : decode cX9_accept 90 = .ok (.getfield 7, 3) := by decide +kernel
theorem dX9_accept_93 : decode cX9_accept 93 = .ok (.bipush 8, 2) := by decide +kernel
theorem dX9_accept_95 : decode cX9_accept 95 = .ok (.dup2, 1) := by decide +kernel
theorem dX9_accept_96 : decode cX9_accept 96 = .ok (.iaload, 1) := by decide +kernel
theorem dX9_accept_97 : decode cX9_accept 97 = .ok (.aload_n 0, 1) := by decide +kernel
theorem dX9_accept_98 : decode cX9_accept 98 = .ok (.getfield 7, 3) := by decide +kernel
theorem dX9_accept_101 : decode cX9_accept 101 = .ok (.bipush 9, 2) := by decide +kernel
theorem dX9_accept_103 : decode cX9_accept 103 = .ok (.iaload, 1) := by decide +kernel
theorem dX9_accept_104 : decode cX9_accept 104 = .ok (.iconst (-1), 1) := by decide +kernel
theorem dX9_accept_105 : decode cX9_accept 105 = .ok (.if_icmp .ne 7, 3) := by decide +kernel
theorem dX9_accept_108 : decode cX9_accept 108 = .ok (.iconst 1, 1) := by decide +kernel
theorem dX9_accept_109 : decode cX9_accept 109 = .ok (.goto 4, 3) := by decide +kernel
theorem dX9_accept_112 : decode cX9_accept 112 = .ok (.iconst 0, 1) := by decide +kernel
theorem dX9_accept_113 : decode cX9_accept 113 = .ok (.iadd, 1) := by decide +kernel
theorem dX9_accept_114 : decode cX9_accept 114 = .ok (.iastore, 1) := by decide +kernel
theorem dX9_accept_115 : decode cX9_accept 115 = .ok (.sipush 720, 3) := by decide +kernel
theorem dX9_accept_118 : decode cX9_accept 118 = .ok (.bipush 11, 2) := by decide +kernel
theorem dX9_accept_120 : decode cX9_accept 120 = .ok (.iload_n 1, 1) := by decide +kernel
theorem dX9_accept_121 : decode cX9_accept 121 = .ok (.imul, 1) := by decide +kernel
theorem dX9_accept_122 : decode cX9_accept 122 = .ok (.iadd, 1) := by decide +kernel
theorem dX9_accept_123 : decode cX9_accept 123 = .ok (.istore_n 2, 1) := by decide +kernel
theorem dX9_accept_124 : decode cX9_accept 124 = .ok (.aload_n 0, 1) := by decide +kernel
theorem dX9_accept_125 : decode cX9_accept 125 = .ok (.getfield 7, 3) := by decide +kernel
theorem dX9_accept_128 : decode cX9_accept 128 = .ok (.iload_n 2, 1) := by decide +kernel
theorem dX9_accept_129 : decode cX9_accept 129 = .ok (.aload_n 0, 1) := by decide +kernel
theorem dX9_accept_130 : decode cX9_accept 130 = .ok (.getfield 92, 3) := by decide +kernel
theorem dX9_accept_133 : decode cX9_accept 133 = .ok (.iastore, 1) := by decide +kernel
theorem dX9_accept_134 : decode cX9_accept 134 = .ok (.iconst 0, 1) := by decide +kernel
theorem dX9_accept_135 : decode cX9_accept 135 = .ok (.istore_n 3, 1) := by decide +kernel
theorem dX9_accept_136 : decode cX9_accept 136 = .ok (.iload_n 3, 1) := by decide +kernel
theorem dX9_accept_137 : decode cX9_accept 137 = .ok (.aload_n 0, 1) := by decide +kernel
theorem dX9_accept_138 : decode cX9_accept 138 = .ok (.getfield 92, 3) := by decide +kernel
theorem dX9_accept_141 : decode cX9_accept 141 = .ok (.if_icmp .ge 25, 3) := by decide +kernel
theorem dX9_accept_144 : decode cX9_accept 144 = .ok (.aload_n 0, 1) := by decide +kernel
theorem dX9_accept_145 : decode cX9_accept 145 = .ok (.getfield 7, 3) := by decide +kernel
theorem dX9_accept_148 : decode cX9_accept 148 = .ok (.iload_n 2, 1) := by decide +kernel
theorem dX9_accept_149 : decode cX9_accept 149 = .ok (.iconst 1, 1) := by decide +kernel
theorem dX9_accept_150 : decode cX9_accept 150 = .ok (.iadd, 1) := by decide +kernel
theorem dX9_accept_151 : decode cX9_accept 151 = .ok (.iload_n 3, 1) := by decide +kernel
theorem dX9_accept_152 : decode cX9_accept 152 = .ok (.iadd, 1) := by decide +kernel
theorem dX9_accept_153 : decode cX9_accept 153 = .ok (.aload_n 0, 1) := by decide +kernel
theorem dX9_accept_154 : decode cX9_accept 154 = .ok (.getfield 19, 3) := by decide +kernel
theorem dX9_accept_157 : decode cX9_accept 157 = .ok (.iload_n 3, 1) := by decide +kernel
theorem dX9_accept_158 : decode cX9_accept 158 = .ok (.iaload, 1) := by decide +kernel
theorem dX9_accept_159 : decode cX9_accept 159 = .ok (.iastore, 1) := by decide +kernel
theorem dX9_accept_160 : decode cX9_accept 160 = .ok (.iinc 3 1, 3) := by decide +kernel
theorem dX9_accept_163 : decode cX9_accept 163 = .ok (.goto (-27), 3) := by decide +kernel
theorem dX9_accept_166 : decode cX9_accept 166 = .ok (.aload_n 0, 1) := by decide +kernel
theorem dX9_accept_167 : decode cX9_accept 167 = .ok (.getfield 7, 3) := by decide +kernel
theorem dX9_accept_170 : decode cX9_accept 170 = .ok (.bipush 6, 2) := by decide +kernel
theorem dX9_accept_172 : decode cX9_accept 172 = .ok (.iconst 0, 1) := by decide +kernel
theorem dX9_accept_173 : decode cX9_accept 173 = .ok (.iastore, 1) := by decide +kernel
theorem dX9_accept_174 : decode cX9_accept 174 = .ok (.aload_n 0, 1) := by decide +kernel
theorem dX9_accept_175 : decode cX9_accept 175 = .ok (.getfield 7, 3) := by decide +kernel
theorem dX9_accept_178 : decode cX9_accept 178 = .ok (.iconst 5, 1) := by decide +kernel
theorem dX9_accept_179 : decode cX9_accept 179 = .ok (.iconst (-1), 1) := by decide +kernel
theorem dX9_accept_180 : decode cX9_accept 180 = .ok (.iastore, 1) := by decide +kernel
theorem dX9_accept_181 : decode cX9_accept 181 = .ok (.aload_n 0, 1) := by decide +kernel
theorem dX9_accept_182 : decode cX9_accept 182 = .ok (.getfield 7, 3) := by decide +kernel
theorem dX9_accept_185 : decode cX9_accept 185 = .ok (.bipush 9, 2) := by decide +kernel
theorem dX9_accept_187 : decode cX9_accept 187 = .ok (.iconst (-1), 1) := by decide +kernel
theorem dX9_accept_188 : decode cX9_accept 188 = .ok (.iastore, 1) := by decide +kernel
theorem dX9_accept_189 : decode cX9_accept 189 = .ok (.aload_n 0, 1) := by decide +kernel
theorem dX9_accept_190 : decode cX9_accept 190 = .ok (.getfield 7, 3) := by decide +kernel
theorem dX9_accept_193 : decode cX9_accept 193 = .ok (.bipush 7, 2) := by decide +kernel
theorem dX9_accept_195 : decode cX9_accept 195 = .ok (.iconst 0, 1) := by decide +kernel
theorem dX9_accept_196 : decode cX9_accept 196 = .ok (.iastore, 1) := by decide +kernel
theorem dX9_accept_197 : decode cX9_accept 197 = .ok (.aload_n 0, 1) := by decide +kernel
theorem dX9_accept_198 : decode cX9_accept 198 = .ok (.getfield 7, 3) := by decide +kernel
theorem dX9_accept_201 : decode cX9_accept 201 = .ok (.bipush 8, 2) := by decide +kernel
theorem dX9_accept_203 : decode cX9_accept 203 = .ok (.iaload, 1) := by decide +kernel
theorem dX9_accept_204 : decode cX9_accept 204 = .ok (.ireturn, 1) := by decide +kernel
theorem dX9_open_0 : decode cX9_open 0 = .ok (.aload_n 0, 1) := by decide +kernel
theorem dX9_open_1 : decode cX9_open 1 = .ok (.iload_n 1, 1) := by decide +kernel
theorem dX9_open_2 : decode cX9_open 2 = .ok (.i2l, 1) := by decide +kernel
theorem dX9_open_3 : decode cX9_open 3 = .ok (.lconst 0, 1) := by decide +kernel
theorem dX9_open_4 : decode cX9_open 4 = .ok (.aload_n 0, 1) := by decide +kernel
theorem dX9_open_5 : decode cX9_open 5 = .ok (.getfield 7, 3) := by decide +kernel
theorem dX9_open_8 : decode cX9_open 8 = .ok (.bipush 8, 2) := by decide +kernel
theorem dX9_open_10 : decode cX9_open 10 = .ok (.iaload, 1) := by decide +kernel
theorem dX9_open_11 : decode cX9_open 11 = .ok (.i2l, 1) := by decide +kernel
theorem dX9_open_12 : decode cX9_open 12 = .ok (.lconst 1, 1) := by decide +kernel
theorem dX9_open_13 : decode cX9_open 13 = .ok (.lsub, 1) := by decide +kernel
theorem dX9_open_14 : decode cX9_open 14 = .ok (.invokestatic 46, 3) := by decide +kernel
theorem dX9_open_17 : decode cX9_open 17 = .ok (.aload_n 0, 1) := by decide +kernel
theorem dX9_open_18 : decode cX9_open 18 = .ok (.getfield 7, 3) := by decide +kernel
theorem dX9_open_21 : decode cX9_open 21 = .ok (.bipush 6, 2) := by decide +kernel
theorem dX9_open_23 : decode cX9_open 23 = .ok (.iaload, 1) := by decide +kernel
theorem dX9_open_24 : decode cX9_open 24 = .ok (.ifCond .ne 18, 3) := by decide +kernel
theorem dX9_open_27 : decode cX9_open 27 = .ok (.aload_n 0, 1) := by decide +kernel
theorem dX9_open_28 : decode cX9_open 28 = .ok (.getfield 7, 3) := by decide +kernel
theorem dX9_open_31 : decode cX9_open 31 = .ok (.bipush 9, 2) := by decide +kernel
theorem dX9_open_33 : decode cX9_open 33 = .ok (.iaload, 1) := by decide +kernel
theorem dX9_open_34 : decode cX9_open 34 = .ok (.iconst (-1), 1) := by decide +kernel
theorem dX9_open_35 : decode cX9_open 35 = .ok (.if_icmp .ne 7, 3) := by decide +kernel
theorem dX9_open_38 : decode cX9_open 38 = .ok (.iconst 1, 1) := by decide +kernel
theorem dX9_open_39 : decode cX9_open 39 = .ok (.goto 4, 3) := by decide +kernel
theorem dX9_open_42 : decode cX9_open 42 = .ok (.iconst 0, 1) := by decide +kernel
theorem dX9_open_43 : decode cX9_open 43 = .ok (.invokevirtual 72, 3) := by decide +kernel
theorem dX9_open_46 : decode cX9_open 46 = .ok (.ifCond .ne 5, 3) := by decide +kernel
theorem dX9_open_49 : decode cX9_open 49 = .ok (.iconst 0, 1) := by decide +kernel
theorem dX9_open_50 : decode cX9_open 50 = .ok (.ireturn, 1) := by decide +kernel
theorem dX9_open_51 : decode cX9_open 51 = .ok (.aload_n 0, 1) := by decide +kernel
theorem dX9_open_52 : decode cX9_open 52 = .ok (.invokevirtual 97, 3) := by decide +kernel
theorem dX9_open_55 : decode cX9_open 55 = .ok (.sipush 720, 3) := by decide +kernel
theorem dX9_open_58 : decode cX9_open 58 = .ok (.bipush 11, 2) := by decide +kernel
theorem dX9_open_60 : decode cX9_open 60 = .ok (.iload_n 1, 1) := by decide +kernel
theorem dX9_open_61 : decode cX9_open 61 = .ok (.imul, 1) := by decide +kernel
theorem dX9_open_62 : decode cX9_open 62 = .ok (.iadd, 1) := by decide +kernel
theorem dX9_open_63 : decode cX9_open 63 = .ok (.istore_n 2, 1) := by decide +kernel
theorem dX9_open_64 : decode cX9_open 64 = .ok (.aload_n 0, 1) := by decide +kernel
theorem dX9_open_65 : decode cX9_open 65 = .ok (.getfield 7, 3) := by decide +kernel
theorem dX9_open_68 : decode cX9_open 68 = .ok (.bipush 6, 2) := by decide +kernel
theorem dX9_open_70 : decode cX9_open 70 = .ok (.aload_n 0, 1) := by decide +kernel
theorem dX9_open_71 : decode cX9_open 71 = .ok (.getfield 7, 3) := by decide +kernel
theorem dX9_open_74 : decode cX9_open 74 = .ok (.iload_n 2, 1) := by decide +kernel
theorem dX9_open_75 : decode cX9_open 75 = .ok (.iaload, 1) := by decide +kernel
theorem dX9_open_76 : decode cX9_open 76 = .ok (.iastore, 1) := by decide +kernel
theorem dX9_open_77 : decode cX9_open 77 = .ok (.iconst 0, 1) := by decide +kernel
theorem dX9_open_78 : decode cX9_open 78 = .ok (.istore_n 3, 1) := by decide +kernel
theorem dX9_open_79 : decode cX9_open 79 = .ok (.iload_n 3, 1) := by decide +kernel
theorem dX9_open_80 : decode cX9_open 80 = .ok (.aload_n 0, 1) := by decide +kernel
theorem dX9_open_81 : decode cX9_open 81 = .ok (.getfield 7, 3) := by decide +kernel
theorem dX9_open_84 : decode cX9_open 84 = .ok (.bipush 6, 2) := by decide +kernel
theorem dX9_open_86 : decode cX9_open 86 = .ok (.iaload, 1) := by decide +kernel
theorem dX9_open_87 : decode cX9_open 87 = .ok (.if_icmp .ge 31, 3) := by decide +kernel
theorem dX9_open_90 : decode cX9_open 90 = .ok (.aload_n 0, 1) := by decide +kernel
theorem dX9_open_91 : decode cX9_open 91 = .ok (.getfield 7, 3) := by decide +kernel
theorem dX9_open_94 : decode cX9_open 94 = .ok (.bipush 10, 2) := by decide +kernel
theorem dX9_open_96 : decode cX9_open 96 = .ok (.iload_n 3, 1) := by decide +kernel
theorem dX9_open_97 : decode cX9_open 97 = .ok (.iadd, 1) := by decide +kernel
theorem dX9_open_98 : decode cX9_open 98 = .ok (.bipush 100, 2) := by decide +kernel
theorem dX9_open_100 : decode cX9_open 100 = .ok (.aload_n 0, 1) := by decide +kernel
theorem dX9_open_101 : decode cX9_open 101 = .ok (.getfield 7, 3) := by decide +kernel
theorem dX9_open_104 : decode cX9_open 104 = .ok (.iload_n 2, 1) := by decide +kernel
theorem dX9_open_105 : decode cX9_open 105 = .ok (.iconst 1, 1) := by decide +kernel
theorem dX9_open_106 : decode cX9_open 106 = .ok (.iadd, 1) := by decide +kernel
theorem dX9_open_107 : decode cX9_open 107 = .ok (.iload_n 3, 1) := by decide +kernel
theorem dX9_open_108 : decode cX9_open 108 = .ok (.iadd, 1) := by decide +kernel
theorem dX9_open_109 : decode cX9_open 109 = .ok (.iaload, 1) := by decide +kernel
theorem dX9_open_110 : decode cX9_open 110 = .ok (.iadd, 1) := by decide +kernel
theorem dX9_open_111 : decode cX9_open 111 = .ok (.iastore, 1) := by decide +kernel
theorem dX9_open_112 : decode cX9_open 112 = .ok (.iinc 3 1, 3) := by decide +kernel
theorem dX9_open_115 : decode cX9_open 115 = .ok (.goto (-36), 3) := by decide +kernel
theorem dX9_open_118 : decode cX9_open 118 = .ok (.aload_n 0, 1) := by decide +kernel
theorem dX9_open_119 : decode cX9_open 119 = .ok (.getfield 7, 3) := by decide +kernel
theorem dX9_open_122 : decode cX9_open 122 = .ok (.bipush 9, 2) := by decide +kernel
theorem dX9_open_124 : decode cX9_open 124 = .ok (.iload_n 1, 1) := by decide +kernel
theorem dX9_open_125 : decode cX9_open 125 = .ok (.iastore, 1) := by decide +kernel
theorem dX9_open_126 : decode cX9_open 126 = .ok (.aload_n 0, 1) := by decide +kernel
theorem dX9_open_127 : decode cX9_open 127 = .ok (.getfield 7, 3) := by decide +kernel
theorem dX9_open_130 : decode cX9_open 130 = .ok (.bipush 7, 2) := by decide +kernel
theorem dX9_open_132 : decode cX9_open 132 = .ok (.iconst 0, 1) := by decide +kernel
theorem dX9_open_133 : decode cX9_open 133 = .ok (.iastore, 1) := by decide +kernel
theorem dX9_open_134 : decode cX9_open 134 = .ok (.aload_n 0, 1) := by decide +kernel
theorem dX9_open_135 : decode cX9_open 135 = .ok (.getfield 7, 3) := by decide +kernel
theorem dX9_open_138 : decode cX9_open 138 = .ok (.bipush 6, 2) := by decide +kernel
theorem dX9_open_140 : decode cX9_open 140 = .ok (.iaload, 1) := by decide +kernel
theorem dX9_open_141 : decode cX9_open 141 = .ok (.ireturn, 1) := by decide +kernel
theorem dX9_settingOf_0 : decode cX9_settingOf 0 = .ok (.iload_n 1, 1) := by decide +kernel
theorem dX9_settingOf_1 : decode cX9_settingOf 1 = .ok (.tableswitch 71 7 10 #[31, 36, 55, 63], 31) := by decide +kernel
theorem dX9_settingOf_32 : decode cX9_settingOf 32 = .ok (.aload_n 0, 1) := by decide +kernel
theorem dX9_settingOf_33 : decode cX9_settingOf 33 = .ok (.invokevirtual 85, 3) := by decide +kernel
theorem dX9_settingOf_36 : decode cX9_settingOf 36 = .ok (.ireturn, 1) := by decide +kernel
theorem dX9_settingOf_37 : decode cX9_settingOf 37 = .ok (.aload_n 0, 1) := by decide +kernel
theorem dX9_settingOf_38 : decode cX9_settingOf 38 = .ok (.invokevirtual 85, 3) := by decide +kernel
theorem dX9_settingOf_41 : decode cX9_settingOf 41 = .ok (.ifCond .le 13, 3) := by decide +kernel
theorem dX9_settingOf_44 : decode cX9_settingOf 44 = .ok (.aload_n 0, 1) := by decide +kernel
theorem dX9_settingOf_45 : decode cX9_settingOf 45 = .ok (.getfield 7, 3) := by decide +kernel
theorem dX9_settingOf_48 : decode cX9_settingOf 48 = .ok (.bipush 7, 2) := by decide +kernel
theorem dX9_settingOf_50 : decode cX9_settingOf 50 = .ok (.iaload, 1) := by decide +kernel
theorem dX9_settingOf_51 : decode cX9_settingOf 51 = .ok (.goto 4, 3) := by decide +kernel
theorem dX9_settingOf_54 : decode cX9_settingOf 54 = .ok (.iconst (-1), 1) := by decide +kernel
theorem dX9_settingOf_55 : decode cX9_settingOf 55 = .ok (.ireturn, 1) := by decide +kernel
theorem dX9_settingOf_56 : decode cX9_settingOf 56 = .ok (.aload_n 0, 1) := by decide +kernel
theorem dX9_settingOf_57 : decode cX9_settingOf 57 = .ok (.getfield 7, 3) := by decide +kernel
theorem dX9_settingOf_60 : decode cX9_settingOf 60 = .ok (.bipush 8, 2) := by decide +kernel
theorem dX9_settingOf_62 : decode cX9_settingOf 62 = .ok (.iaload, 1) := by decide +kernel
theorem dX9_settingOf_63 : decode cX9_settingOf 63 = .ok (.ireturn, 1) := by decide +kernel
theorem dX9_settingOf_64 : decode cX9_settingOf 64 = .ok (.aload_n 0, 1) := by decide +kernel
theorem dX9_settingOf_65 : decode cX9_settingOf 65 = .ok (.getfield 7, 3) := by decide +kernel
theorem dX9_settingOf_68 : decode cX9_settingOf 68 = .ok (.bipush 9, 2) := by decide +kernel
theorem dX9_settingOf_70 : decode cX9_settingOf 70 = .ok (.iaload, 1) := by decide +kernel
theorem dX9_settingOf_71 : decode cX9_settingOf 71 = .ok (.ireturn, 1) := by decide +kernel
theorem dX9_settingOf_72 : decode cX9_settingOf 72 = .ok (.aload_n 0, 1) := by decide +kernel
theorem dX9_settingOf_73 : decode cX9_settingOf 73 = .ok (.getfield 7, 3) := by decide +kernel
theorem dX9_settingOf_76 : decode cX9_settingOf 76 = .ok (.iload_n 1, 1) := by decide +kernel
theorem dX9_settingOf_77 : decode cX9_settingOf 77 = .ok (.iaload, 1) := by decide +kernel
theorem dX9_settingOf_78 : decode cX9_settingOf 78 = .ok (.ireturn, 1) := by decide +kernel
theorem dX9_setting_0 : decode cX9_setting 0 = .ok (.aload_n 0, 1) := by decide +kernel
theorem dX9_setting_1 : decode cX9_setting 1 = .ok (.iload_n 1, 1) := by decide +kernel
theorem dX9_setting_2 : decode cX9_setting 2 = .ok (.i2l, 1) := by decide +kernel
theorem dX9_setting_3 : decode cX9_setting 3 = .ok (.lconst 0, 1) := by decide +kernel
theorem dX9_setting_4 : decode cX9_setting 4 = .ok (.ldc2_w 135, 3) := by decide +kernel
theorem dX9_setting_7 : decode cX9_setting 7 = .ok (.invokestatic 46, 3) := by decide +kernel
theorem dX9_setting_10 : decode cX9_setting 10 = .ok (.iconst 1, 1) := by decide +kernel
theorem dX9_setting_11 : decode cX9_setting 11 = .ok (.invokevirtual 72, 3) := by decide +kernel
theorem dX9_setting_14 : decode cX9_setting 14 = .ok (.ifCond .eq 11, 3) := by decide +kernel
theorem dX9_setting_17 : decode cX9_setting 17 = .ok (.aload_n 0, 1) := by decide +kernel
theorem dX9_setting_18 : decode cX9_setting 18 = .ok (.iload_n 1, 1) := by decide +kernel
theorem dX9_setting_19 : decode cX9_setting 19 = .ok (.invokevirtual 137, 3) := by decide +kernel
theorem dX9_setting_22 : decode cX9_setting 22 = .ok (.goto 4, 3) := by decide +kernel
theorem dX9_setting_25 : decode cX9_setting 25 = .ok (.iconst 0, 1) := by decide +kernel
theorem dX9_setting_26 : decode cX9_setting 26 = .ok (.ireturn, 1) := by decide +kernel
theorem dX9_place_0 : decode cX9_place 0 = .ok (.aload_n 0, 1) := by decide +kernel
theorem dX9_place_1 : decode cX9_place 1 = .ok (.iload_n 1, 1) := by decide +kernel
theorem dX9_place_2 : decode cX9_place 2 = .ok (.i2l, 1) := by decide +kernel
theorem dX9_place_3 : decode cX9_place 3 = .ok (.lconst 0, 1) := by decide +kernel
theorem dX9_place_4 : decode cX9_place 4 = .ok (.aload_n 0, 1) := by decide +kernel
theorem dX9_place_5 : decode cX9_place 5 = .ok (.getfield 7, 3) := by decide +kernel
theorem dX9_place_8 : decode cX9_place 8 = .ok (.bipush 6, 2) := by decide +kernel
theorem dX9_place_10 : decode cX9_place 10 = .ok (.iaload, 1) := by decide +kernel
theorem dX9_place_11 : decode cX9_place 11 = .ok (.i2l, 1) := by decide +kernel
theorem dX9_place_12 : decode cX9_place 12 = .ok (.lconst 1, 1) := by decide +kernel
theorem dX9_place_13 : decode cX9_place 13 = .ok (.lsub, 1) := by decide +kernel
theorem dX9_place_14 : decode cX9_place 14 = .ok (.invokestatic 46, 3) := by decide +kernel
theorem dX9_place_17 : decode cX9_place 17 = .ok (.iconst 1, 1) := by decide +kernel
theorem dX9_place_18 : decode cX9_place 18 = .ok (.invokevirtual 72, 3) := by decide +kernel
theorem dX9_place_21 : decode cX9_place 21 = .ok (.ifCond .eq 15, 3) := by decide +kernel
theorem dX9_place_24 : decode cX9_place 24 = .ok (.aload_n 0, 1) := by decide +kernel
theorem dX9_place_25 : decode cX9_place 25 = .ok (.getfield 7, 3) := by decide +kernel
theorem dX9_place_28 : decode cX9_place 28 = .ok (.bipush 10, 2) := by decide +kernel
theorem dX9_place_30 : decode cX9_place 30 = .ok (.iload_n 1, 1) := by decide +kernel
theorem dX9_place_31 : decode cX9_place 31 = .ok (.iadd, 1) := by decide +kernel
theorem dX9_place_32 : decode cX9_place 32 = .ok (.iaload, 1) := by decide +kernel
theorem dX9_place_33 : decode cX9_place 33 = .ok (.goto 4, 3) := by decide +kernel
theorem dX9_place_36 : decode cX9_place 36 = .ok (.iconst 0, 1) := by decide +kernel
theorem dX9_place_37 : decode cX9_place 37 = .ok (.ireturn, 1) := by decide +kernel
theorem dX9_display_0 : decode cX9_display 0 = .ok (.aload_n 0, 1) := by decide +kernel
theorem dX9_display_1 : decode cX9_display 1 = .ok (.iload_n 1, 1) := by decide +kernel
theorem dX9_display_2 : decode cX9_display 2 = .ok (.ifCond .lt 7, 3) := by decide +kernel
theorem dX9_display_5 : decode cX9_display 5 = .ok (.iconst 1, 1) := by decide +kernel
theorem dX9_display_6 : decode cX9_display 6 = .ok (.goto 4, 3) := by decide +kernel
theorem dX9_display_9 : decode cX9_display 9 = .ok (.iconst 0, 1) := by decide +kernel
theorem dX9_display_10 : decode cX9_display 10 = .ok (.iconst 1, 1) := by decide +kernel
theorem dX9_display_11 : decode cX9_display 11 = .ok (.invokevirtual 72, 3) := by decide +kernel
theorem dX9_display_14 : decode cX9_display 14 = .ok (.ifCond .ne 5, 3) := by decide +kernel
theorem dX9_display_17 : decode cX9_display 17 = .ok (.iconst 0, 1) := by decide +kernel
theorem dX9_display_18 : decode cX9_display 18 = .ok (.ireturn, 1) := by decide +kernel
theorem dX9_display_19 : decode cX9_display 19 = .ok (.aload_n 0, 1) := by decide +kernel
theorem dX9_display_20 : decode cX9_display 20 = .ok (.invokevirtual 107, 3) := by decide +kernel
theorem dX9_display_23 : decode cX9_display 23 = .ok (.iload_n 1, 1) := by decide +kernel
theorem dX9_display_24 : decode cX9_display 24 = .ok (.aload_n 0, 1) := by decide +kernel
theorem dX9_display_25 : decode cX9_display 25 = .ok (.getfield 92, 3) := by decide +kernel
theorem dX9_display_28 : decode cX9_display 28 = .ok (.if_icmp .ge 12, 3) := by decide +kernel
theorem dX9_display_31 : decode cX9_display 31 = .ok (.aload_n 0, 1) := by decide +kernel
theorem dX9_display_32 : decode cX9_display 32 = .ok (.getfield 19, 3) := by decide +kernel
theorem dX9_display_35 : decode cX9_display 35 = .ok (.iload_n 1, 1) := by decide +kernel
theorem dX9_display_36 : decode cX9_display 36 = .ok (.iaload, 1) := by decide +kernel
theorem dX9_display_37 : decode cX9_display 37 = .ok (.goto 4, 3) := by decide +kernel
theorem dX9_display_40 : decode cX9_display 40 = .ok (.iconst (-1), 1) := by decide +kernel
theorem dX9_display_41 : decode cX9_display 41 = .ok (.ireturn, 1) := by decide +kernel
theorem dX9_written_0 : decode cX9_written 0 = .ok (.iload_n 1, 1) := by decide +kernel
theorem dX9_written_1 : decode cX9_written 1 = .ok (.i2l, 1) := by decide +kernel
theorem dX9_written_2 : decode cX9_written 2 = .ok (.lconst 0, 1) := by decide +kernel
theorem dX9_written_3 : decode cX9_written 3 = .ok (.aload_n 0, 1) := by decide +kernel
theorem dX9_written_4 : decode cX9_written 4 = .ok (.getfield 7, 3) := by decide +kernel
theorem dX9_written_7 : decode cX9_written 7 = .ok (.bipush 8, 2) := by decide +kernel
theorem dX9_written_9 : decode cX9_written 9 = .ok (.iaload, 1) := by decide +kernel
theorem dX9_written_10 : decode cX9_written 10 = .ok (.i2l, 1) := by decide +kernel
theorem dX9_written_11 : decode cX9_written 11 = .ok (.lconst 1, 1) := by decide +kernel
theorem dX9_written_12 : decode cX9_written 12 = .ok (.lsub, 1) := by decide +kernel
theorem dX9_written_13 : decode cX9_written 13 = .ok (.invokestatic 46, 3) := by decide +kernel
theorem dX9_written_16 : decode cX9_written 16 = .ok (.istore_n 3, 1) := by decide +kernel
theorem dX9_written_17 : decode cX9_written 17 = .ok (.iload_n 3, 1) := by decide +kernel
theorem dX9_written_18 : decode cX9_written 18 = .ok (.ifCond .eq 14, 3) := by decide +kernel
theorem dX9_written_21 : decode cX9_written 21 = .ok (.sipush 720, 3) := by decide +kernel
theorem dX9_written_24 : decode cX9_written 24 = .ok (.bipush 11, 2) := by decide +kernel
theorem dX9_written_26 : decode cX9_written 26 = .ok (.iload_n 1, 1) := by decide +kernel
theorem dX9_written_27 : decode cX9_written 27 = .ok (.imul, 1) := by decide +kernel
theorem dX9_written_28 : decode cX9_written 28 = .ok (.iadd, 1) := by decide +kernel
theorem dX9_written_29 : decode cX9_written 29 = .ok (.goto 6, 3) := by decide +kernel
theorem dX9_written_32 : decode cX9_written 32 = .ok (.sipush 720, 3) := by decide +kernel
theorem dX9_written_35 : decode cX9_written 35 = .ok (.istore 4, 2) := by decide +kernel
theorem dX9_written_37 : decode cX9_written 37 = .ok (.aload_n 0, 1) := by decide +kernel
theorem dX9_written_38 : decode cX9_written 38 = .ok (.iload_n 3, 1) := by decide +kernel
theorem dX9_written_39 : decode cX9_written 39 = .ok (.ifCond .eq 28, 3) := by decide +kernel
theorem dX9_written_42 : decode cX9_written 42 = .ok (.iload_n 2, 1) := by decide +kernel
theorem dX9_written_43 : decode cX9_written 43 = .ok (.i2l, 1) := by decide +kernel
theorem dX9_written_44 : decode cX9_written 44 = .ok (.ldc2_w 140, 3) := by decide +kernel
theorem dX9_written_47 : decode cX9_written 47 = .ok (.aload_n 0, 1) := by decide +kernel
theorem dX9_written_48 : decode cX9_written 48 = .ok (.getfield 7, 3) := by decide +kernel
theorem dX9_written_51 : decode cX9_written 51 = .ok (.iload 4, 2) := by decide +kernel
theorem dX9_written_53 : decode cX9_written 53 = .ok (.iaload, 1) := by decide +kernel
theorem dX9_written_54 : decode cX9_written 54 = .ok (.i2l, 1) := by decide +kernel
theorem dX9_written_55 : decode cX9_written 55 = .ok (.lconst 1, 1) := by decide +kernel
theorem dX9_written_56 : decode cX9_written 56 = .ok (.lsub, 1) := by decide +kernel
theorem dX9_written_57 : decode cX9_written 57 = .ok (.invokestatic 46, 3) := by decide +kernel
theorem dX9_written_60 : decode cX9_written 60 = .ok (.ifCond .eq 7, 3) := by decide +kernel
theorem dX9_written_63 : decode cX9_written 63 = .ok (.iconst 1, 1) := by decide +kernel
theorem dX9_written_64 : decode cX9_written 64 = .ok (.goto 4, 3) := by decide +kernel
theorem dX9_written_67 : decode cX9_written 67 = .ok (.iconst 0, 1) := by decide +kernel
theorem dX9_written_68 : decode cX9_written 68 = .ok (.iconst 1, 1) := by decide +kernel
theorem dX9_written_69 : decode cX9_written 69 = .ok (.invokevirtual 72, 3) := by decide +kernel
theorem dX9_written_72 : decode cX9_written 72 = .ok (.ifCond .eq 17, 3) := by decide +kernel
theorem dX9_written_75 : decode cX9_written 75 = .ok (.aload_n 0, 1) := by decide +kernel
theorem dX9_written_76 : decode cX9_written 76 = .ok (.getfield 7, 3) := by decide +kernel
theorem dX9_written_79 : decode cX9_written 79 = .ok (.iload 4, 2) := by decide +kernel
theorem dX9_written_81 : decode cX9_written 81 = .ok (.iconst 1, 1) := by decide +kernel
theorem dX9_written_82 : decode cX9_written 82 = .ok (.iadd, 1) := by decide +kernel
theorem dX9_written_83 : decode cX9_written 83 = .ok (.iload_n 2, 1) := by decide +kernel
theorem dX9_written_84 : decode cX9_written 84 = .ok (.iadd, 1) := by decide +kernel
theorem dX9_written_85 : decode cX9_written 85 = .ok (.iaload, 1) := by decide +kernel
theorem dX9_written_86 : decode cX9_written 86 = .ok (.goto 4, 3) := by decide +kernel
theorem dX9_written_89 : decode cX9_written 89 = .ok (.iconst 0, 1) := by decide +kernel
theorem dX9_written_90 : decode cX9_written 90 = .ok (.ireturn, 1) := by decide +kernel
theorem dX9_haveKeys_0 : decode cX9_haveKeys 0 = .ok (.aload_n 0, 1) := by decide +kernel
theorem dX9_haveKeys_1 : decode cX9_haveKeys 1 = .ok (.iload_n 1, 1) := by decide +kernel
theorem dX9_haveKeys_2 : decode cX9_haveKeys 2 = .ok (.iconst 0, 1) := by decide +kernel
theorem dX9_haveKeys_3 : decode cX9_haveKeys 3 = .ok (.invokevirtual 50, 3) := by decide +kernel
theorem dX9_haveKeys_6 : decode cX9_haveKeys 6 = .ok (.aload_n 0, 1) := by decide +kernel
theorem dX9_haveKeys_7 : decode cX9_haveKeys 7 = .ok (.iload_n 2, 1) := by decide +kernel
theorem dX9_haveKeys_8 : decode cX9_haveKeys 8 = .ok (.iconst 0, 1) := by decide +kernel
theorem dX9_haveKeys_9 : decode cX9_haveKeys 9 = .ok (.invokevirtual 50, 3) := by decide +kernel
theorem dX9_haveKeys_12 : decode cX9_haveKeys 12 = .ok (.if_icmp .ne 7, 3) := by decide +kernel
theorem dX9_haveKeys_15 : decode cX9_haveKeys 15 = .ok (.iconst 1, 1) := by decide +kernel
theorem dX9_haveKeys_16 : decode cX9_haveKeys 16 = .ok (.goto 4, 3) := by decide +kernel
theorem dX9_haveKeys_19 : decode cX9_haveKeys 19 = .ok (.iconst 0, 1) := by decide +kernel
theorem dX9_haveKeys_20 : decode cX9_haveKeys 20 = .ok (.istore_n 3, 1) := by decide +kernel
theorem dX9_haveKeys_21 : decode cX9_haveKeys 21 = .ok (.iconst 0, 1) := by decide +kernel
theorem dX9_haveKeys_22 : decode cX9_haveKeys 22 = .ok (.istore 4, 2) := by decide +kernel
theorem dX9_haveKeys_24 : decode cX9_haveKeys 24 = .ok (.iload 4, 2) := by decide +kernel
theorem dX9_haveKeys_26 : decode cX9_haveKeys 26 = .ok (.aload_n 0, 1) := by decide +kernel
theorem dX9_haveKeys_27 : decode cX9_haveKeys 27 = .ok (.iload_n 1, 1) := by decide +kernel
theorem dX9_haveKeys_28 : decode cX9_haveKeys 28 = .ok (.iconst 0, 1) := by decide +kernel
theorem dX9_haveKeys_29 : decode cX9_haveKeys 29 = .ok (.invokevirtual 50, 3) := by decide +kernel
theorem dX9_haveKeys_32 : decode cX9_haveKeys 32 = .ok (.if_icmp .ge 42, 3) := by decide +kernel
theorem dX9_haveKeys_35 : decode cX9_haveKeys 35 = .ok (.iload_n 3, 1) := by decide +kernel
theorem dX9_haveKeys_36 : decode cX9_haveKeys 36 = .ok (.ifCond .eq 38, 3) := by decide +kernel
theorem dX9_haveKeys_39 : decode cX9_haveKeys 39 = .ok (.aload_n 0, 1) := by decide +kernel
theorem dX9_haveKeys_40 : decode cX9_haveKeys 40 = .ok (.iload_n 1, 1) := by decide +kernel
theorem dX9_haveKeys_41 : decode cX9_haveKeys 41 = .ok (.iload 4, 2) := by decide +kernel
theorem dX9_haveKeys_43 : decode cX9_haveKeys 43 = .ok (.invokevirtual 53, 3) := by decide +kernel
theorem dX9_haveKeys_46 : decode cX9_haveKeys 46 = .ok (.invokestatic 32, 3) := by decide +kernel
theorem dX9_haveKeys_49 : decode cX9_haveKeys 49 = .ok (.aload_n 0, 1) := by decide +kernel
theorem dX9_haveKeys_50 : decode cX9_haveKeys 50 = .ok (.iload_n 2, 1) := by decide +kernel
theorem dX9_haveKeys_51 : decode cX9_haveKeys 51 = .ok (.iload 4, 2) := by decide +kernel
theorem dX9_haveKeys_53 : decode cX9_haveKeys 53 = .ok (.invokevirtual 53, 3) := by decide +kernel
theorem dX9_haveKeys_56 : decode cX9_haveKeys 56 = .ok (.invokestatic 32, 3) := by decide +kernel
theorem dX9_haveKeys_59 : decode cX9_haveKeys 59 = .ok (.if_icmp .ne 7, 3) := by decide +kernel
theorem dX9_haveKeys_62 : decode cX9_haveKeys 62 = .ok (.iconst 1, 1) := by decide +kernel
theorem dX9_haveKeys_63 : decode cX9_haveKeys 63 = .ok (.goto 4, 3) := by decide +kernel
theorem dX9_haveKeys_66 : decode cX9_haveKeys 66 = .ok (.iconst 0, 1) := by decide +kernel
theorem dX9_haveKeys_67 : decode cX9_haveKeys 67 = .ok (.istore_n 3, 1) := by decide +kernel
theorem dX9_haveKeys_68 : decode cX9_haveKeys 68 = .ok (.iinc 4 1, 3) := by decide +kernel
theorem dX9_haveKeys_71 : decode cX9_haveKeys 71 = .ok (.goto (-47), 3) := by decide +kernel
theorem dX9_haveKeys_74 : decode cX9_haveKeys 74 = .ok (.iload_n 3, 1) := by decide +kernel
theorem dX9_haveKeys_75 : decode cX9_haveKeys 75 = .ok (.ireturn, 1) := by decide +kernel
theorem dX9_stepsOf_0 : decode cX9_stepsOf 0 = .ok (.iconst 0, 1) := by decide +kernel
theorem dX9_stepsOf_1 : decode cX9_stepsOf 1 = .ok (.istore_n 2, 1) := by decide +kernel
theorem dX9_stepsOf_2 : decode cX9_stepsOf 2 = .ok (.iconst 0, 1) := by decide +kernel
theorem dX9_stepsOf_3 : decode cX9_stepsOf 3 = .ok (.istore_n 3, 1) := by decide +kernel
theorem dX9_stepsOf_4 : decode cX9_stepsOf 4 = .ok (.iload_n 3, 1) := by decide +kernel
theorem dX9_stepsOf_5 : decode cX9_stepsOf 5 = .ok (.aload_n 0, 1) := by decide +kernel
theorem dX9_stepsOf_6 : decode cX9_stepsOf 6 = .ok (.getfield 7, 3) := by decide +kernel
theorem dX9_stepsOf_9 : decode cX9_stepsOf 9 = .ok (.iconst 0, 1) := by decide +kernel
theorem dX9_stepsOf_10 : decode cX9_stepsOf 10 = .ok (.iaload, 1) := by decide +kernel
theorem dX9_stepsOf_11 : decode cX9_stepsOf 11 = .ok (.if_icmp .ge 40, 3) := by decide +kernel
theorem dX9_stepsOf_14 : decode cX9_stepsOf 14 = .ok (.iload_n 2, 1) := by decide +kernel
theorem dX9_stepsOf_15 : decode cX9_stepsOf 15 = .ok (.iload_n 3, 1) := by decide +kernel
theorem dX9_stepsOf_16 : decode cX9_stepsOf 16 = .ok (.iload_n 1, 1) := by decide +kernel
theorem dX9_stepsOf_17 : decode cX9_stepsOf 17 = .ok (.if_icmp .eq 25, 3) := by decide +kernel
theorem dX9_stepsOf_20 : decode cX9_stepsOf 20 = .ok (.aload_n 0, 1) := by decide +kernel
theorem dX9_stepsOf_21 : decode cX9_stepsOf 21 = .ok (.iload_n 3, 1) := by decide +kernel
theorem dX9_stepsOf_22 : decode cX9_stepsOf 22 = .ok (.iload_n 1, 1) := by decide +kernel
theorem dX9_stepsOf_23 : decode cX9_stepsOf 23 = .ok (.invokevirtual 142, 3) := by decide +kernel
theorem dX9_stepsOf_26 : decode cX9_stepsOf 26 = .ok (.ifCond .eq 16, 3) := by decide +kernel
theorem dX9_stepsOf_29 : decode cX9_stepsOf 29 = .ok (.aload_n 0, 1) := by decide +kernel
theorem dX9_stepsOf_30 : decode cX9_stepsOf 30 = .ok (.iload_n 3, 1) := by decide +kernel
theorem dX9_stepsOf_31 : decode cX9_stepsOf 31 = .ok (.iload_n 1, 1) := by decide +kernel
theorem dX9_stepsOf_32 : decode cX9_stepsOf 32 = .ok (.invokevirtual 59, 3) := by decide +kernel
theorem dX9_stepsOf_35 : decode cX9_stepsOf 35 = .ok (.ifCond .eq 7, 3) := by decide +kernel
theorem dX9_stepsOf_38 : decode cX9_stepsOf 38 = .ok (.iconst 1, 1) := by decide +kernel
theorem dX9_stepsOf_39 : decode cX9_stepsOf 39 = .ok (.goto 4, 3) := by decide +kernel
theorem dX9_stepsOf_42 : decode cX9_stepsOf 42 = .ok (.iconst 0, 1) := by decide +kernel
theorem dX9_stepsOf_43 : decode cX9_stepsOf 43 = .ok (.iadd, 1) := by decide +kernel
theorem dX9_stepsOf_44 : decode cX9_stepsOf 44 = .ok (.istore_n 2, 1) := by decide +kernel
theorem dX9_stepsOf_45 : decode cX9_stepsOf 45 = .ok (.iinc 3 1, 3) := by decide +kernel
theorem dX9_stepsOf_48 : decode cX9_stepsOf 48 = .ok (.goto (-44), 3) := by decide +kernel
theorem dX9_stepsOf_51 : decode cX9_stepsOf 51 = .ok (.iload_n 2, 1) := by decide +kernel
theorem dX9_stepsOf_52 : decode cX9_stepsOf 52 = .ok (.ireturn, 1) := by decide +kernel
theorem dX9_steps_0 : decode cX9_steps 0 = .ok (.aload_n 0, 1) := by decide +kernel
theorem dX9_steps_1 : decode cX9_steps 1 = .ok (.aload_n 0, 1) := by decide +kernel
theorem dX9_steps_2 : decode cX9_steps 2 = .ok (.iload_n 1, 1) := by decide +kernel
theorem dX9_steps_3 : decode cX9_steps 3 = .ok (.invokevirtual 66, 3) := by decide +kernel
theorem dX9_steps_6 : decode cX9_steps 6 = .ok (.iconst 1, 1) := by decide +kernel
theorem dX9_steps_7 : decode cX9_steps 7 = .ok (.invokevirtual 72, 3) := by decide +kernel
theorem dX9_steps_10 : decode cX9_steps 10 = .ok (.ifCond .eq 11, 3) := by decide +kernel
theorem dX9_steps_13 : decode cX9_steps 13 = .ok (.aload_n 0, 1) := by decide +kernel
theorem dX9_steps_14 : decode cX9_steps 14 = .ok (.iload_n 1, 1) := by decide +kernel
theorem dX9_steps_15 : decode cX9_steps 15 = .ok (.invokevirtual 145, 3) := by decide +kernel
theorem dX9_steps_18 : decode cX9_steps 18 = .ok (.goto 4, 3) := by decide +kernel
theorem dX9_steps_21 : decode cX9_steps 21 = .ok (.iconst 0, 1) := by decide +kernel
theorem dX9_steps_22 : decode cX9_steps 22 = .ok (.ireturn, 1) := by decide +kernel
theorem dX9_pressesOf_0 : decode cX9_pressesOf 0 = .ok (.iload_n 2, 1) := by decide +kernel
theorem dX9_pressesOf_1 : decode cX9_pressesOf 1 = .ok (.ifCond .ne 16, 3) := by decide +kernel
theorem dX9_pressesOf_4 : decode cX9_pressesOf 4 = .ok (.aload_n 0, 1) := by decide +kernel
theorem dX9_pressesOf_5 : decode cX9_pressesOf 5 = .ok (.iload_n 1, 1) := by decide +kernel
theorem dX9_pressesOf_6 : decode cX9_pressesOf 6 = .ok (.iconst 0, 1) := by decide +kernel
theorem dX9_pressesOf_7 : decode cX9_pressesOf 7 = .ok (.invokevirtual 50, 3) := by decide +kernel
theorem dX9_pressesOf_10 : decode cX9_pressesOf 10 = .ok (.aload_n 0, 1) := by decide +kernel
theorem dX9_pressesOf_11 : decode cX9_pressesOf 11 = .ok (.iload_n 1, 1) := by decide +kernel
theorem dX9_pressesOf_12 : decode cX9_pressesOf 12 = .ok (.invokevirtual 145, 3) := by decide +kernel
theorem dX9_pressesOf_15 : decode cX9_pressesOf 15 = .ok (.iadd, 1) := by decide +kernel
theorem dX9_pressesOf_16 : decode cX9_pressesOf 16 = .ok (.ireturn, 1) := by decide +kernel
theorem dX9_pressesOf_17 : decode cX9_pressesOf 17 = .ok (.iconst 0, 1) := by decide +kernel
theorem dX9_pressesOf_18 : decode cX9_pressesOf 18 = .ok (.istore_n 3, 1) := by decide +kernel
theorem dX9_pressesOf_19 : decode cX9_pressesOf 19 = .ok (.iconst (-1), 1) := by decide +kernel
theorem dX9_pressesOf_20 : decode cX9_pressesOf 20 = .ok (.istore 4, 2) := by decide +kernel
theorem dX9_pressesOf_22 : decode cX9_pressesOf 22 = .ok (.iconst 0, 1) := by decide +kernel
theorem dX9_pressesOf_23 : decode cX9_pressesOf 23 = .ok (.istore 5, 2) := by decide +kernel
theorem dX9_pressesOf_25 : decode cX9_pressesOf 25 = .ok (.iload 5, 2) := by decide +kernel
theorem dX9_pressesOf_27 : decode cX9_pressesOf 27 = .ok (.aload_n 0, 1) := by decide +kernel
theorem dX9_pressesOf_28 : decode cX9_pressesOf 28 = .ok (.iload_n 1, 1) := by decide +kernel
theorem dX9_pressesOf_29 : decode cX9_pressesOf 29 = .ok (.iconst 0, 1) := by decide +kernel
theorem dX9_pressesOf_30 : decode cX9_pressesOf 30 = .ok (.invokevirtual 50, 3) := by decide +kernel
theorem dX9_pressesOf_33 : decode cX9_pressesOf 33 = .ok (.if_icmp .ge 56, 3) := by decide +kernel
theorem dX9_pressesOf_36 : decode cX9_pressesOf 36 = .ok (.aload_n 0, 1) := by decide +kernel
theorem dX9_pressesOf_37 : decode cX9_pressesOf 37 = .ok (.iload_n 1, 1) := by decide +kernel
theorem dX9_pressesOf_38 : decode cX9_pressesOf 38 = .ok (.iload 5, 2) := by decide +kernel
theorem dX9_pressesOf_40 : decode cX9_pressesOf 40 = .ok (.invokevirtual 53, 3) := by decide +kernel
theorem dX9_pressesOf_43 : decode cX9_pressesOf 43 = .ok (.invokestatic 32, 3) := by decide +kernel
theorem dX9_pressesOf_46 : decode cX9_pressesOf 46 = .ok (.istore 6, 2) := by decide +kernel
theorem dX9_pressesOf_48 : decode cX9_pressesOf 48 = .ok (.iload_n 3, 1) := by decide +kernel
theorem dX9_pressesOf_49 : decode cX9_pressesOf 49 = .ok (.aload_n 0, 1) := by decide +kernel
theorem dX9_pressesOf_50 : decode cX9_pressesOf 50 = .ok (.iload_n 1, 1) := by decide +kernel
theorem dX9_pressesOf_51 : decode cX9_pressesOf 51 = .ok (.iload 5, 2) := by decide +kernel
theorem dX9_pressesOf_53 : decode cX9_pressesOf 53 = .ok (.invokevirtual 53, 3) := by decide +kernel
theorem dX9_pressesOf_56 : decode cX9_pressesOf 56 = .ok (.iload 6, 2) := by decide +kernel
theorem dX9_pressesOf_58 : decode cX9_pressesOf 58 = .ok (.invokestatic 36, 3) := by decide +kernel
theorem dX9_pressesOf_61 : decode cX9_pressesOf 61 = .ok (.isub, 1) := by decide +kernel
theorem dX9_pressesOf_62 : decode cX9_pressesOf 62 = .ok (.iconst 1, 1) := by decide +kernel
theorem dX9_pressesOf_63 : decode cX9_pressesOf 63 = .ok (.iadd, 1) := by decide +kernel
theorem dX9_pressesOf_64 : decode cX9_pressesOf 64 = .ok (.iload 6, 2) := by decide +kernel
theorem dX9_pressesOf_66 : decode cX9_pressesOf 66 = .ok (.iload 4, 2) := by decide +kernel
theorem dX9_pressesOf_68 : decode cX9_pressesOf 68 = .ok (.if_icmp .ne 7, 3) := by decide +kernel
theorem dX9_pressesOf_71 : decode cX9_pressesOf 71 = .ok (.iconst 1, 1) := by decide +kernel
theorem dX9_pressesOf_72 : decode cX9_pressesOf 72 = .ok (.goto 4, 3) := by decide +kernel
theorem dX9_pressesOf_75 : decode cX9_pressesOf 75 = .ok (.iconst 0, 1) := by decide +kernel
theorem dX9_pressesOf_76 : decode cX9_pressesOf 76 = .ok (.iadd, 1) := by decide +kernel
theorem dX9_pressesOf_77 : decode cX9_pressesOf 77 = .ok (.iadd, 1) := by decide +kernel
theorem dX9_pressesOf_78 : decode cX9_pressesOf 78 = .ok (.istore_n 3, 1) := by decide +kernel
theorem dX9_pressesOf_79 : decode cX9_pressesOf 79 = .ok (.iload 6, 2) := by decide +kernel
theorem dX9_pressesOf_81 : decode cX9_pressesOf 81 = .ok (.istore 4, 2) := by decide +kernel
theorem dX9_pressesOf_83 : decode cX9_pressesOf 83 = .ok (.iinc 5 1, 3) := by decide +kernel
theorem dX9_pressesOf_86 : decode cX9_pressesOf 86 = .ok (.goto (-61), 3) := by decide +kernel
theorem dX9_pressesOf_89 : decode cX9_pressesOf 89 = .ok (.iload_n 3, 1) := by decide +kernel
theorem dX9_pressesOf_90 : decode cX9_pressesOf 90 = .ok (.ireturn, 1) := by decide +kernel
theorem dX9_presses_0 : decode cX9_presses 0 = .ok (.aload_n 0, 1) := by decide +kernel
theorem dX9_presses_1 : decode cX9_presses 1 = .ok (.aload_n 0, 1) := by decide +kernel
theorem dX9_presses_2 : decode cX9_presses 2 = .ok (.iload_n 1, 1) := by decide +kernel
theorem dX9_presses_3 : decode cX9_presses 3 = .ok (.invokevirtual 66, 3) := by decide +kernel
theorem dX9_presses_6 : decode cX9_presses 6 = .ok (.iconst 1, 1) := by decide +kernel
theorem dX9_presses_7 : decode cX9_presses 7 = .ok (.invokevirtual 72, 3) := by decide +kernel
theorem dX9_presses_10 : decode cX9_presses 10 = .ok (.ifCond .eq 12, 3) := by decide +kernel
theorem dX9_presses_13 : decode cX9_presses 13 = .ok (.aload_n 0, 1) := by decide +kernel
theorem dX9_presses_14 : decode cX9_presses 14 = .ok (.iload_n 1, 1) := by decide +kernel
theorem dX9_presses_15 : decode cX9_presses 15 = .ok (.iload_n 2, 1) := by decide +kernel
theorem dX9_presses_16 : decode cX9_presses 16 = .ok (.invokevirtual 148, 3) := by decide +kernel
theorem dX9_presses_19 : decode cX9_presses 19 = .ok (.goto 4, 3) := by decide +kernel
theorem dX9_presses_22 : decode cX9_presses 22 = .ok (.iconst 0, 1) := by decide +kernel
theorem dX9_presses_23 : decode cX9_presses 23 = .ok (.ireturn, 1) := by decide +kernel
theorem dX9_clashing_0 : decode cX9_clashing 0 = .ok (.aload_n 0, 1) := by decide +kernel
theorem dX9_clashing_1 : decode cX9_clashing 1 = .ok (.iconst 0, 1) := by decide +kernel
theorem dX9_clashing_2 : decode cX9_clashing 2 = .ok (.putfield 25, 3) := by decide +kernel
theorem dX9_clashing_5 : decode cX9_clashing 5 = .ok (.iconst 0, 1) := by decide +kernel
theorem dX9_clashing_6 : decode cX9_clashing 6 = .ok (.istore_n 1, 1) := by decide +kernel
theorem dX9_clashing_7 : decode cX9_clashing 7 = .ok (.iconst 0, 1) := by decide +kernel
theorem dX9_clashing_8 : decode cX9_clashing 8 = .ok (.istore_n 2, 1) := by decide +kernel
theorem dX9_clashing_9 : decode cX9_clashing 9 = .ok (.iload_n 2, 1) := by decide +kernel
theorem dX9_clashing_10 : decode cX9_clashing 10 = .ok (.aload_n 0, 1) := by decide +kernel
theorem dX9_clashing_11 : decode cX9_clashing 11 = .ok (.getfield 7, 3) := by decide +kernel
theorem dX9_clashing_14 : decode cX9_clashing 14 = .ok (.iconst 0, 1) := by decide +kernel
theorem dX9_clashing_15 : decode cX9_clashing 15 = .ok (.iaload, 1) := by decide +kernel
theorem dX9_clashing_16 : decode cX9_clashing 16 = .ok (.if_icmp .ge 69, 3) := by decide +kernel
theorem dX9_clashing_19 : decode cX9_clashing 19 = .ok (.iconst 0, 1) := by decide +kernel
theorem dX9_clashing_20 : decode cX9_clashing 20 = .ok (.istore_n 3, 1) := by decide +kernel
theorem dX9_clashing_21 : decode cX9_clashing 21 = .ok (.iconst 0, 1) := by decide +kernel
theorem dX9_clashing_22 : decode cX9_clashing 22 = .ok (.istore 4, 2) := by decide +kernel
theorem dX9_clashing_24 : decode cX9_clashing 24 = .ok (.iload 4, 2) := by decide +kernel
theorem dX9_clashing_26 : decode cX9_clashing 26 = .ok (.aload_n 0, 1) := by decide +kernel
theorem dX9_clashing_27 : decode cX9_clashing 27 = .ok (.getfield 7, 3) := by decide +kernel
theorem dX9_clashing_30 : decode cX9_clashing 30 = .ok (.iconst 0, 1) := by decide +kernel
theorem dX9_clashing_31 : decode cX9_clashing 31 = .ok (.iaload, 1) := by decide +kernel
theorem dX9_clashing_32 : decode cX9_clashing 32 = .ok (.if_icmp .ge 35, 3) := by decide +kernel
theorem dX9_clashing_35 : decode cX9_clashing 35 = .ok (.iload_n 3, 1) := by decide +kernel
theorem dX9_clashing_36 : decode cX9_clashing 36 = .ok (.ifCond .ne 19, 3) := by decide +kernel
theorem dX9_clashing_39 : decode cX9_clashing 39 = .ok (.iload 4, 2) := by decide +kernel
theorem dX9_clashing_41 : decode cX9_clashing 41 = .ok (.iload_n 2, 1) := by decide +kernel
theorem dX9_clashing_42 : decode cX9_clashing 42 = .ok (.if_icmp .eq 17, 3) := by decide +kernel
theorem dX9_clashing_45 : decode cX9_clashing 45 = .ok (.aload_n 0, 1) := by decide +kernel
theorem dX9_clashing_46 : decode cX9_clashing 46 = .ok (.iload 4, 2) := by decide +kernel
theorem dX9_clashing_48 : decode cX9_clashing 48 = .ok (.iload_n 2, 1) := by decide +kernel
theorem dX9_clashing_49 : decode cX9_clashing 49 = .ok (.invokevirtual 142, 3) := by decide +kernel
theorem dX9_clashing_52 : decode cX9_clashing 52 = .ok (.ifCond .eq 7, 3) := by decide +kernel
theorem dX9_clashing_55 : decode cX9_clashing 55 = .ok (.iconst 1, 1) := by decide +kernel
theorem dX9_clashing_56 : decode cX9_clashing 56 = .ok (.goto 4, 3) := by decide +kernel
theorem dX9_clashing_59 : decode cX9_clashing 59 = .ok (.iconst 0, 1) := by decide +kernel
theorem dX9_clashing_60 : decode cX9_clashing 60 = .ok (.istore_n 3, 1) := by decide +kernel
theorem dX9_clashing_61 : decode cX9_clashing 61 = .ok (.iinc 4 1, 3) := by decide +kernel
theorem dX9_clashing_64 : decode cX9_clashing 64 = .ok (.goto (-40), 3) := by decide +kernel
theorem dX9_clashing_67 : decode cX9_clashing 67 = .ok (.iload_n 1, 1) := by decide +kernel
theorem dX9_clashing_68 : decode cX9_clashing 68 = .ok (.iload_n 3, 1) := by decide +kernel
theorem dX9_clashing_69 : decode cX9_clashing 69 = .ok (.ifCond .eq 7, 3) := by decide +kernel
theorem dX9_clashing_72 : decode cX9_clashing 72 = .ok (.iconst 1, 1) := by decide +kernel
theorem dX9_clashing_73 : decode cX9_clashing 73 = .ok (.goto 4, 3) := by decide +kernel
theorem dX9_clashing_76 : decode cX9_clashing 76 = .ok (.iconst 0, 1) := by decide +kernel
theorem dX9_clashing_77 : decode cX9_clashing 77 = .ok (.iadd, 1) := by decide +kernel
theorem dX9_clashing_78 : decode cX9_clashing 78 = .ok (.istore_n 1, 1) := by decide +kernel
theorem dX9_clashing_79 : decode cX9_clashing 79 = .ok (.iinc 2 1, 3) := by decide +kernel
theorem dX9_clashing_82 : decode cX9_clashing 82 = .ok (.goto (-73), 3) := by decide +kernel
theorem dX9_clashing_85 : decode cX9_clashing 85 = .ok (.iload_n 1, 1) := by decide +kernel
theorem dX9_clashing_86 : decode cX9_clashing 86 = .ok (.ireturn, 1) := by decide +kernel
theorem dX9_saving_0 : decode cX9_saving 0 = .ok (.aload_n 0, 1) := by decide +kernel
theorem dX9_saving_1 : decode cX9_saving 1 = .ok (.iconst 0, 1) := by decide +kernel
theorem dX9_saving_2 : decode cX9_saving 2 = .ok (.putfield 25, 3) := by decide +kernel
theorem dX9_saving_5 : decode cX9_saving 5 = .ok (.iconst 0, 1) := by decide +kernel
theorem dX9_saving_6 : decode cX9_saving 6 = .ok (.istore_n 1, 1) := by decide +kernel
theorem dX9_saving_7 : decode cX9_saving 7 = .ok (.iconst 0, 1) := by decide +kernel
theorem dX9_saving_8 : decode cX9_saving 8 = .ok (.istore_n 2, 1) := by decide +kernel
theorem dX9_saving_9 : decode cX9_saving 9 = .ok (.iconst 0, 1) := by decide +kernel
theorem dX9_saving_10 : decode cX9_saving 10 = .ok (.istore_n 3, 1) := by decide +kernel
theorem dX9_saving_11 : decode cX9_saving 11 = .ok (.iload_n 3, 1) := by decide +kernel
theorem dX9_saving_12 : decode cX9_saving 12 = .ok (.aload_n 0, 1) := by decide +kernel
theorem dX9_saving_13 : decode cX9_saving 13 = .ok (.getfield 7, 3) := by decide +kernel
theorem dX9_saving_16 : decode cX9_saving 16 = .ok (.iconst 0, 1) := by decide +kernel
theorem dX9_saving_17 : decode cX9_saving 17 = .ok (.iaload, 1) := by decide +kernel
theorem dX9_saving_18 : decode cX9_saving 18 = .ok (.if_icmp .ge 48, 3) := by decide +kernel
theorem dX9_saving_21 : decode cX9_saving 21 = .ok (.aload_n 0, 1) := by decide +kernel
theorem dX9_saving_22 : decode cX9_saving 22 = .ok (.iload_n 3, 1) := by decide +kernel
theorem dX9_saving_23 : decode cX9_saving 23 = .ok (.iconst 1, 1) := by decide +kernel
theorem dX9_saving_24 : decode cX9_saving 24 = .ok (.invokevirtual 148, 3) := by decide +kernel
theorem dX9_saving_27 : decode cX9_saving 27 = .ok (.istore 4, 2) := by decide +kernel
theorem dX9_saving_29 : decode cX9_saving 29 = .ok (.iload_n 1, 1) := by decide +kernel
theorem dX9_saving_30 : decode cX9_saving 30 = .ok (.aload_n 0, 1) := by decide +kernel
theorem dX9_saving_31 : decode cX9_saving 31 = .ok (.iload_n 3, 1) := by decide +kernel
theorem dX9_saving_32 : decode cX9_saving 32 = .ok (.iconst 1, 1) := by decide +kernel
theorem dX9_saving_33 : decode cX9_saving 33 = .ok (.invokevirtual 50, 3) := by decide +kernel
theorem dX9_saving_36 : decode cX9_saving 36 = .ok (.iload 4, 2) := by decide +kernel
theorem dX9_saving_38 : decode cX9_saving 38 = .ok (.aload_n 0, 1) := by decide +kernel
theorem dX9_saving_39 : decode cX9_saving 39 = .ok (.iload_n 3, 1) := by decide +kernel
theorem dX9_saving_40 : decode cX9_saving 40 = .ok (.iconst 0, 1) := by decide +kernel
theorem dX9_saving_41 : decode cX9_saving 41 = .ok (.invokevirtual 148, 3) := by decide +kernel
theorem dX9_saving_44 : decode cX9_saving 44 = .ok (.isub, 1) := by decide +kernel
theorem dX9_saving_45 : decode cX9_saving 45 = .ok (.imul, 1) := by decide +kernel
theorem dX9_saving_46 : decode cX9_saving 46 = .ok (.iadd, 1) := by decide +kernel
theorem dX9_saving_47 : decode cX9_saving 47 = .ok (.istore_n 1, 1) := by decide +kernel
theorem dX9_saving_48 : decode cX9_saving 48 = .ok (.iload_n 2, 1) := by decide +kernel
theorem dX9_saving_49 : decode cX9_saving 49 = .ok (.aload_n 0, 1) := by decide +kernel
theorem dX9_saving_50 : decode cX9_saving 50 = .ok (.iload_n 3, 1) := by decide +kernel
theorem dX9_saving_51 : decode cX9_saving 51 = .ok (.iconst 1, 1) := by decide +kernel
theorem dX9_saving_52 : decode cX9_saving 52 = .ok (.invokevirtual 50, 3) := by decide +kernel
theorem dX9_saving_55 : decode cX9_saving 55 = .ok (.iload 4, 2) := by decide +kernel
theorem dX9_saving_57 : decode cX9_saving 57 = .ok (.imul, 1) := by decide +kernel
theorem dX9_saving_58 : decode cX9_saving 58 = .ok (.iadd, 1) := by decide +kernel
theorem dX9_saving_59 : decode cX9_saving 59 = .ok (.istore_n 2, 1) := by decide +kernel
theorem dX9_saving_60 : decode cX9_saving 60 = .ok (.iinc 3 1, 3) := by decide +kernel
theorem dX9_saving_63 : decode cX9_saving 63 = .ok (.goto (-52), 3) := by decide +kernel
theorem dX9_saving_66 : decode cX9_saving 66 = .ok (.iload_n 2, 1) := by decide +kernel
theorem dX9_saving_67 : decode cX9_saving 67 = .ok (.ifCond .ne 7, 3) := by decide +kernel
theorem dX9_saving_70 : decode cX9_saving 70 = .ok (.dconst 0, 1) := by decide +kernel
theorem dX9_saving_71 : decode cX9_saving 71 = .ok (.goto 8, 3) := by decide +kernel
theorem dX9_saving_74 : decode cX9_saving 74 = .ok (.iload_n 1, 1) := by decide +kernel
theorem dX9_saving_75 : decode cX9_saving 75 = .ok (.i2d, 1) := by decide +kernel
theorem dX9_saving_76 : decode cX9_saving 76 = .ok (.iload_n 2, 1) := by decide +kernel
theorem dX9_saving_77 : decode cX9_saving 77 = .ok (.i2d, 1) := by decide +kernel
theorem dX9_saving_78 : decode cX9_saving 78 = .ok (.ddiv, 1) := by decide +kernel
theorem dX9_saving_79 : decode cX9_saving 79 = .ok (.dreturn, 1) := by decide +kernel
theorem dX9_isFirst_0 : decode cX9_isFirst 0 = .ok (.iconst 1, 1) := by decide +kernel
theorem dX9_isFirst_1 : decode cX9_isFirst 1 = .ok (.istore_n 3, 1) := by decide +kernel
theorem dX9_isFirst_2 : decode cX9_isFirst 2 = .ok (.iconst 0, 1) := by decide +kernel
theorem dX9_isFirst_3 : decode cX9_isFirst 3 = .ok (.istore 4, 2) := by decide +kernel
theorem dX9_isFirst_5 : decode cX9_isFirst 5 = .ok (.iload 4, 2) := by decide +kernel
theorem dX9_isFirst_7 : decode cX9_isFirst 7 = .ok (.aload_n 0, 1) := by decide +kernel
theorem dX9_isFirst_8 : decode cX9_isFirst 8 = .ok (.getfield 7, 3) := by decide +kernel
theorem dX9_isFirst_11 : decode cX9_isFirst 11 = .ok (.iconst 0, 1) := by decide +kernel
theorem dX9_isFirst_12 : decode cX9_isFirst 12 = .ok (.iaload, 1) := by decide +kernel
theorem dX9_isFirst_13 : decode cX9_isFirst 13 = .ok (.if_icmp .ge 159, 3) := by decide +kernel
theorem dX9_isFirst_16 : decode cX9_isFirst 16 = .ok (.iload_n 3, 1) := by decide +kernel
theorem dX9_isFirst_17 : decode cX9_isFirst 17 = .ok (.ifCond .eq 155, 3) := by decide +kernel
theorem dX9_isFirst_20 : decode cX9_isFirst 20 = .ok (.iload 4, 2) := by decide +kernel
theorem dX9_isFirst_22 : decode cX9_isFirst 22 = .ok (.iload_n 1, 1) := by decide +kernel
theorem dX9_isFirst_23 : decode cX9_isFirst 23 = .ok (.if_icmp .eq 18, 3) := by decide +kernel
theorem dX9_isFirst_26 : decode cX9_isFirst 26 = .ok (.aload_n 0, 1) := by decide +kernel
theorem dX9_isFirst_27 : decode cX9_isFirst 27 = .ok (.iload 4, 2) := by decide +kernel
theorem dX9_isFirst_29 : decode cX9_isFirst 29 = .ok (.iconst 0, 1) := by decide +kernel
theorem dX9_isFirst_30 : decode cX9_isFirst 30 = .ok (.invokevirtual 50, 3) := by decide +kernel
theorem dX9_isFirst_33 : decode cX9_isFirst 33 = .ok (.iload_n 2, 1) := by decide +kernel
theorem dX9_isFirst_34 : decode cX9_isFirst 34 = .ok (.if_icmp .lt 7, 3) := by decide +kernel
theorem dX9_isFirst_37 : decode cX9_isFirst 37 = .ok (.iconst 1, 1) := by decide +kernel
theorem dX9_isFirst_38 : decode cX9_isFirst 38 = .ok (.goto 4, 3) := by decide +kernel
theorem dX9_isFirst_41 : decode cX9_isFirst 41 = .ok (.iconst 0, 1) := by decide +kernel
theorem dX9_isFirst_42 : decode cX9_isFirst 42 = .ok (.istore 5, 2) := by decide +kernel
theorem dX9_isFirst_44 : decode cX9_isFirst 44 = .ok (.iconst 0, 1) := by decide +kernel
theorem dX9_isFirst_45 : decode cX9_isFirst 45 = .ok (.istore 6, 2) := by decide +kernel
theorem dX9_isFirst_47 : decode cX9_isFirst 47 = .ok (.iload 6, 2) := by decide +kernel
theorem dX9_isFirst_49 : decode cX9_isFirst 49 = .ok (.iload_n 2, 1) := by decide +kernel
theorem dX9_isFirst_50 : decode cX9_isFirst 50 = .ok (.if_icmp .ge 45, 3) := by decide +kernel
theorem dX9_isFirst_53 : decode cX9_isFirst 53 = .ok (.iload 5, 2) := by decide +kernel
theorem dX9_isFirst_55 : decode cX9_isFirst 55 = .ok (.ifCond .eq 40, 3) := by decide +kernel
theorem dX9_isFirst_58 : decode cX9_isFirst 58 = .ok (.aload_n 0, 1) := by decide +kernel
theorem dX9_isFirst_59 : decode cX9_isFirst 59 = .ok (.iload 4, 2) := by decide +kernel
theorem dX9_isFirst_61 : decode cX9_isFirst 61 = .ok (.iload 6, 2) := by decide +kernel
theorem dX9_isFirst_63 : decode cX9_isFirst 63 = .ok (.invokevirtual 53, 3) := by decide +kernel
theorem dX9_isFirst_66 : decode cX9_isFirst 66 = .ok (.invokestatic 32, 3) := by decide +kernel
theorem dX9_isFirst_69 : decode cX9_isFirst 69 = .ok (.aload_n 0, 1) := by decide +kernel
theorem dX9_isFirst_70 : decode cX9_isFirst 70 = .ok (.iload_n 1, 1) := by decide +kernel
theorem dX9_isFirst_71 : decode cX9_isFirst 71 = .ok (.iload 6, 2) := by decide +kernel
theorem dX9_isFirst_73 : decode cX9_isFirst 73 = .ok (.invokevirtual 53, 3) := by decide +kernel
theorem dX9_isFirst_76 : decode cX9_isFirst 76 = .ok (.invokestatic 32, 3) := by decide +kernel
theorem dX9_isFirst_79 : decode cX9_isFirst 79 = .ok (.if_icmp .ne 7, 3) := by decide +kernel
theorem dX9_isFirst_82 : decode cX9_isFirst 82 = .ok (.iconst 1, 1) := by decide +kernel
theorem dX9_isFirst_83 : decode cX9_isFirst 83 = .ok (.goto 4, 3) := by decide +kernel
theorem dX9_isFirst_86 : decode cX9_isFirst 86 = .ok (.iconst 0, 1) := by decide +kernel
theorem dX9_isFirst_87 : decode cX9_isFirst 87 = .ok (.istore 5, 2) := by decide +kernel
theorem dX9_isFirst_89 : decode cX9_isFirst 89 = .ok (.iinc 6 1, 3) := by decide +kernel
theorem dX9_isFirst_92 : decode cX9_isFirst 92 = .ok (.goto (-45), 3) := by decide +kernel
theorem dX9_isFirst_95 : decode cX9_isFirst 95 = .ok (.aload_n 0, 1) := by decide +kernel
theorem dX9_isFirst_96 : decode cX9_isFirst 96 = .ok (.iload 4, 2) := by decide +kernel
theorem dX9_isFirst_98 : decode cX9_isFirst 98 = .ok (.iconst 0, 1) := by decide +kernel
theorem dX9_isFirst_99 : decode cX9_isFirst 99 = .ok (.invokevirtual 50, 3) := by decide +kernel
theorem dX9_isFirst_102 : decode cX9_isFirst 102 = .ok (.iload_n 2, 1) := by decide +kernel
theorem dX9_isFirst_103 : decode cX9_isFirst 103 = .ok (.if_icmp .ne 7, 3) := by decide +kernel
theorem dX9_isFirst_106 : decode cX9_isFirst 106 = .ok (.iconst 1, 1) := by decide +kernel
theorem dX9_isFirst_107 : decode cX9_isFirst 107 = .ok (.goto 4, 3) := by decide +kernel
theorem dX9_isFirst_110 : decode cX9_isFirst 110 = .ok (.iconst 0, 1) := by decide +kernel
theorem dX9_isFirst_111 : decode cX9_isFirst 111 = .ok (.istore 6, 2) := by decide +kernel
theorem dX9_isFirst_113 : decode cX9_isFirst 113 = .ok (.aload_n 0, 1) := by decide +kernel
theorem dX9_isFirst_114 : decode cX9_isFirst 114 = .ok (.iload_n 1, 1) := by decide +kernel
theorem dX9_isFirst_115 : decode cX9_isFirst 115 = .ok (.iconst 0, 1) := by decide +kernel
theorem dX9_isFirst_116 : decode cX9_isFirst 116 = .ok (.invokevirtual 50, 3) := by decide +kernel
theorem dX9_isFirst_119 : decode cX9_isFirst 119 = .ok (.iload_n 2, 1) := by decide +kernel
theorem dX9_isFirst_120 : decode cX9_isFirst 120 = .ok (.if_icmp .ne 7, 3) := by decide +kernel
theorem dX9_isFirst_123 : decode cX9_isFirst 123 = .ok (.iconst 1, 1) := by decide +kernel
theorem dX9_isFirst_124 : decode cX9_isFirst 124 = .ok (.goto 4, 3) := by decide +kernel
theorem dX9_isFirst_127 : decode cX9_isFirst 127 = .ok (.iconst 0, 1) := by decide +kernel
theorem dX9_isFirst_128 : decode cX9_isFirst 128 = .ok (.istore 7, 2) := by decide +kernel
theorem dX9_isFirst_130 : decode cX9_isFirst 130 = .ok (.iload 5, 2) := by decide +kernel
theorem dX9_isFirst_132 : decode cX9_isFirst 132 = .ok (.ifCond .eq 28, 3) := by decide +kernel
theorem dX9_isFirst_135 : decode cX9_isFirst 135 = .ok (.iload 6, 2) := by decide +kernel
theorem dX9_isFirst_137 : decode cX9_isFirst 137 = .ok (.iload 7, 2) := by decide +kernel
theorem dX9_isFirst_139 : decode cX9_isFirst 139 = .ok (.if_icmp .ne 16, 3) := by decide +kernel
theorem dX9_isFirst_142 : decode cX9_isFirst 142 = .ok (.aload_n 0, 1) := by decide +kernel
theorem dX9_isFirst_143 : decode cX9_isFirst 143 = .ok (.iload_n 1, 1) := by decide +kernel
theorem dX9_isFirst_144 : decode cX9_isFirst 144 = .ok (.iload 4, 2) := by decide +kernel
theorem dX9_isFirst_146 : decode cX9_isFirst 146 = .ok (.invokevirtual 59, 3) := by decide +kernel
theorem dX9_isFirst_149 : decode cX9_isFirst 149 = .ok (.ifCond .eq 15, 3) := by decide +kernel
theorem dX9_isFirst_152 : decode cX9_isFirst 152 = .ok (.goto 8, 3) := by decide +kernel
theorem dX9_isFirst_155 : decode cX9_isFirst 155 = .ok (.iload 7, 2) := by decide +kernel
theorem dX9_isFirst_157 : decode cX9_isFirst 157 = .ok (.ifCond .eq 7, 3) := by decide +kernel
theorem dX9_isFirst_160 : decode cX9_isFirst 160 = .ok (.iconst 1, 1) := by decide +kernel
theorem dX9_isFirst_161 : decode cX9_isFirst 161 = .ok (.goto 4, 3) := by decide +kernel
theorem dX9_isFirst_164 : decode cX9_isFirst 164 = .ok (.iconst 0, 1) := by decide +kernel
theorem dX9_isFirst_165 : decode cX9_isFirst 165 = .ok (.istore_n 3, 1) := by decide +kernel
theorem dX9_isFirst_166 : decode cX9_isFirst 166 = .ok (.iinc 4 1, 3) := by decide +kernel
theorem dX9_isFirst_169 : decode cX9_isFirst 169 = .ok (.goto (-164), 3) := by decide +kernel
theorem dX9_isFirst_172 : decode cX9_isFirst 172 = .ok (.iload_n 3, 1) := by decide +kernel
theorem dX9_isFirst_173 : decode cX9_isFirst 173 = .ok (.ireturn, 1) := by decide +kernel
theorem dX9_shortest_0 : decode cX9_shortest 0 = .ok (.aload_n 0, 1) := by decide +kernel
theorem dX9_shortest_1 : decode cX9_shortest 1 = .ok (.aload_n 0, 1) := by decide +kernel
theorem dX9_shortest_2 : decode cX9_shortest 2 = .ok (.iload_n 1, 1) := by decide +kernel
theorem dX9_shortest_3 : decode cX9_shortest 3 = .ok (.invokevirtual 66, 3) := by decide +kernel
theorem dX9_shortest_6 : decode cX9_shortest 6 = .ok (.iconst 1, 1) := by decide +kernel
theorem dX9_shortest_7 : decode cX9_shortest 7 = .ok (.invokevirtual 72, 3) := by decide +kernel
theorem dX9_shortest_10 : decode cX9_shortest 10 = .ok (.ifCond .ne 5, 3) := by decide +kernel
theorem dX9_shortest_13 : decode cX9_shortest 13 = .ok (.iconst 0, 1) := by decide +kernel
theorem dX9_shortest_14 : decode cX9_shortest 14 = .ok (.ireturn, 1) := by decide +kernel
theorem dX9_shortest_15 : decode cX9_shortest 15 = .ok (.iconst 1, 1) := by decide +kernel
theorem dX9_shortest_16 : decode cX9_shortest 16 = .ok (.istore_n 2, 1) := by decide +kernel
theorem dX9_shortest_17 : decode cX9_shortest 17 = .ok (.iload_n 2, 1) := by decide +kernel
theorem dX9_shortest_18 : decode cX9_shortest 18 = .ok (.aload_n 0, 1) := by decide +kernel
theorem dX9_shortest_19 : decode cX9_shortest 19 = .ok (.iload_n 1, 1) := by decide +kernel
theorem dX9_shortest_20 : decode cX9_shortest 20 = .ok (.iconst 0, 1) := by decide +kernel
theorem dX9_shortest_21 : decode cX9_shortest 21 = .ok (.invokevirtual 50, 3) := by decide +kernel
theorem dX9_shortest_24 : decode cX9_shortest 24 = .ok (.if_icmp .gt 20, 3) := by decide +kernel
theorem dX9_shortest_27 : decode cX9_shortest 27 = .ok (.aload_n 0, 1) := by decide +kernel
theorem dX9_shortest_28 : decode cX9_shortest 28 = .ok (.iload_n 1, 1) := by decide +kernel
theorem dX9_shortest_29 : decode cX9_shortest 29 = .ok (.iload_n 2, 1) := by decide +kernel
theorem dX9_shortest_30 : decode cX9_shortest 30 = .ok (.invokevirtual 152, 3) := by decide +kernel
theorem dX9_shortest_33 : decode cX9_shortest 33 = .ok (.ifCond .eq 5, 3) := by decide +kernel
theorem dX9_shortest_36 : decode cX9_shortest 36 = .ok (.iload_n 2, 1) := by decide +kernel
theorem dX9_shortest_37 : decode cX9_shortest 37 = .ok (.ireturn, 1) := by decide +kernel
theorem dX9_shortest_38 : decode cX9_shortest 38 = .ok (.iinc 2 1, 3) := by decide +kernel
theorem dX9_shortest_41 : decode cX9_shortest 41 = .ok (.goto (-24), 3) := by decide +kernel
theorem dX9_shortest_44 : decode cX9_shortest 44 = .ok (.iconst (-1), 1) := by decide +kernel
theorem dX9_shortest_45 : decode cX9_shortest 45 = .ok (.ireturn, 1) := by decide +kernel
theorem dX9_append_0 : decode cX9_append 0 = .ok (.aload_n 0, 1) := by decide +kernel
theorem dX9_append_1 : decode cX9_append 1 = .ok (.iload_n 1, 1) := by decide +kernel
theorem dX9_append_2 : decode cX9_append 2 = .ok (.i2l, 1) := by decide +kernel
theorem dX9_append_3 : decode cX9_append 3 = .ok (.lconst 0, 1) := by decide +kernel
theorem dX9_append_4 : decode cX9_append 4 = .ok (.ldc2_w 155, 3) := by decide +kernel
theorem dX9_append_7 : decode cX9_append 7 = .ok (.invokestatic 46, 3) := by decide +kernel
theorem dX9_append_10 : decode cX9_append 10 = .ok (.aload_n 0, 1) := by decide +kernel
theorem dX9_append_11 : decode cX9_append 11 = .ok (.getfield 157, 3) := by decide +kernel
theorem dX9_append_14 : decode cX9_append 14 = .ok (.sipush 150, 3) := by decide +kernel
theorem dX9_append_17 : decode cX9_append 17 = .ok (.if_icmp .ge 7, 3) := by decide +kernel
theorem dX9_append_20 : decode cX9_append 20 = .ok (.iconst 1, 1) := by decide +kernel
theorem dX9_append_21 : decode cX9_append 21 = .ok (.goto 4, 3) := by decide +kernel
theorem dX9_append_24 : decode cX9_append 24 = .ok (.iconst 0, 1) := by decide +kernel
theorem dX9_append_25 : decode cX9_append 25 = .ok (.invokevirtual 72, 3) := by decide +kernel
theorem dX9_append_28 : decode cX9_append 28 = .ok (.ifCond .ne 5, 3) := by decide +kernel
theorem dX9_append_31 : decode cX9_append 31 = .ok (.iconst 0, 1) := by decide +kernel
theorem dX9_append_32 : decode cX9_append 32 = .ok (.ireturn, 1) := by decide +kernel
theorem dX9_append_33 : decode cX9_append 33 = .ok (.aload_n 0, 1) := by decide +kernel
theorem dX9_append_34 : decode cX9_append 34 = .ok (.getfield 22, 3) := by decide +kernel
theorem dX9_append_37 : decode cX9_append 37 = .ok (.aload_n 0, 1) := by decide +kernel
theorem dX9_append_38 : decode cX9_append 38 = .ok (.getfield 157, 3) := by decide +kernel
theorem dX9_append_41 : decode cX9_append 41 = .ok (.iload_n 1, 1) := by decide +kernel
theorem dX9_append_42 : decode cX9_append 42 = .ok (.iastore, 1) := by decide +kernel
theorem dX9_append_43 : decode cX9_append 43 = .ok (.aload_n 0, 1) := by decide +kernel
theorem dX9_append_44 : decode cX9_append 44 = .ok (.dup, 1) := by decide +kernel
theorem dX9_append_45 : decode cX9_append 45 = .ok (.getfield 157, 3) := by decide +kernel
theorem dX9_append_48 : decode cX9_append 48 = .ok (.iconst 1, 1) := by decide +kernel
theorem dX9_append_49 : decode cX9_append 49 = .ok (.iadd, 1) := by decide +kernel
theorem dX9_append_50 : decode cX9_append 50 = .ok (.putfield 157, 3) := by decide +kernel
theorem dX9_append_53 : decode cX9_append 53 = .ok (.aload_n 0, 1) := by decide +kernel
theorem dX9_append_54 : decode cX9_append 54 = .ok (.getfield 157, 3) := by decide +kernel
theorem dX9_append_57 : decode cX9_append 57 = .ok (.ireturn, 1) := by decide +kernel
theorem dX9_clearText_0 : decode cX9_clearText 0 = .ok (.aload_n 0, 1) := by decide +kernel
theorem dX9_clearText_1 : decode cX9_clearText 1 = .ok (.iconst 0, 1) := by decide +kernel
theorem dX9_clearText_2 : decode cX9_clearText 2 = .ok (.putfield 25, 3) := by decide +kernel
theorem dX9_clearText_5 : decode cX9_clearText 5 = .ok (.aload_n 0, 1) := by decide +kernel
theorem dX9_clearText_6 : decode cX9_clearText 6 = .ok (.getfield 157, 3) := by decide +kernel
theorem dX9_clearText_9 : decode cX9_clearText 9 = .ok (.istore_n 1, 1) := by decide +kernel
theorem dX9_clearText_10 : decode cX9_clearText 10 = .ok (.aload_n 0, 1) := by decide +kernel
theorem dX9_clearText_11 : decode cX9_clearText 11 = .ok (.iconst 0, 1) := by decide +kernel
theorem dX9_clearText_12 : decode cX9_clearText 12 = .ok (.putfield 157, 3) := by decide +kernel
theorem dX9_clearText_15 : decode cX9_clearText 15 = .ok (.iload_n 1, 1) := by decide +kernel
theorem dX9_clearText_16 : decode cX9_clearText 16 = .ok (.ireturn, 1) := by decide +kernel
theorem dX9_here_0 : decode cX9_here 0 = .ok (.aload_n 0, 1) := by decide +kernel
theorem dX9_here_1 : decode cX9_here 1 = .ok (.getfield 160, 3) := by decide +kernel
theorem dX9_here_4 : decode cX9_here 4 = .ok (.aload_n 0, 1) := by decide +kernel
theorem dX9_here_5 : decode cX9_here 5 = .ok (.getfield 157, 3) := by decide +kernel
theorem dX9_here_8 : decode cX9_here 8 = .ok (.if_icmp .ge 15, 3) := by decide +kernel
theorem dX9_here_11 : decode cX9_here 11 = .ok (.aload_n 0, 1) := by decide +kernel
theorem dX9_here_12 : decode cX9_here 12 = .ok (.getfield 22, 3) := by decide +kernel
theorem dX9_here_15 : decode cX9_here 15 = .ok (.aload_n 0, 1) := by decide +kernel
theorem dX9_here_16 : decode cX9_here 16 = .ok (.getfield 160, 3) := by decide +kernel
theorem dX9_here_19 : decode cX9_here 19 = .ok (.iaload, 1) := by decide +kernel
theorem dX9_here_20 : decode cX9_here 20 = .ok (.goto 4, 3) := by decide +kernel
theorem dX9_here_23 : decode cX9_here 23 = .ok (.iconst (-1), 1) := by decide +kernel
theorem dX9_here_24 : decode cX9_here 24 = .ok (.ireturn, 1) := by decide +kernel
theorem dX9_passesByte_0 : decode cX9_passesByte 0 = .ok (.aload_n 0, 1) := by decide +kernel
theorem dX9_passesByte_1 : decode cX9_passesByte 1 = .ok (.invokevirtual 163, 3) := by decide +kernel
theorem dX9_passesByte_4 : decode cX9_passesByte 4 = .ok (.iload_n 1, 1) := by decide +kernel
theorem dX9_passesByte_5 : decode cX9_passesByte 5 = .ok (.if_icmp .ne 7, 3) := by decide +kernel
theorem dX9_passesByte_8 : decode cX9_passesByte 8 = .ok (.iconst 1, 1) := by decide +kernel
theorem dX9_passesByte_9 : decode cX9_passesByte 9 = .ok (.goto 4, 3) := by decide +kernel
theorem dX9_passesByte_12 : decode cX9_passesByte 12 = .ok (.iconst 0, 1) := by decide +kernel
theorem dX9_passesByte_13 : decode cX9_passesByte 13 = .ok (.istore_n 2, 1) := by decide +kernel
theorem dX9_passesByte_14 : decode cX9_passesByte 14 = .ok (.aload_n 0, 1) := by decide +kernel
theorem dX9_passesByte_15 : decode cX9_passesByte 15 = .ok (.dup, 1) := by decide +kernel
theorem dX9_passesByte_16 : decode cX9_passesByte 16 = .ok (.getfield 160, 3) := by decide +kernel
theorem dX9_passesByte_19 : decode cX9_passesByte 19 = .ok (.iload_n 2, 1) := by decide +kernel
theorem dX9_passesByte_20 : decode cX9_passesByte 20 = .ok (.ifCond .eq 7, 3) := by decide +kernel
theorem dX9_passesByte_23 : decode cX9_passesByte 23 = .ok (.iconst 1, 1) := by decide +kernel
theorem dX9_passesByte_24 : decode cX9_passesByte 24 = .ok (.goto 4, 3) := by decide +kernel
theorem dX9_passesByte_27 : decode cX9_passesByte 27 = .ok (.iconst 0, 1) := by decide +kernel
theorem dX9_passesByte_28 : decode cX9_passesByte 28 = .ok (.iadd, 1) := by decide +kernel
theorem dX9_passesByte_29 : decode cX9_passesByte 29 = .ok (.putfield 160, 3) := by decide +kernel
theorem dX9_passesByte_32 : decode cX9_passesByte 32 = .ok (.iload_n 2, 1) := by decide +kernel
theorem dX9_passesByte_33 : decode cX9_passesByte 33 = .ok (.ireturn, 1) := by decide +kernel
theorem dX9_readsWord_0 : decode cX9_readsWord 0 = .ok (.aload_n 0, 1) := by decide +kernel
theorem dX9_readsWord_1 : decode cX9_readsWord 1 = .ok (.getfield 7, 3) := by decide +kernel
theorem dX9_readsWord_4 : decode cX9_readsWord 4 = .ok (.iconst 0, 1) := by decide +kernel
theorem dX9_readsWord_5 : decode cX9_readsWord 5 = .ok (.iaload, 1) := by decide +kernel
theorem dX9_readsWord_6 : decode cX9_readsWord 6 = .ok (.istore_n 1, 1) := by decide +kernel
theorem dX9_readsWord_7 : decode cX9_readsWord 7 = .ok (.aload_n 0, 1) := by decide +kernel
theorem dX9_readsWord_8 : decode cX9_readsWord 8 = .ok (.getfield 160, 3) := by decide +kernel
theorem dX9_readsWord_11 : decode cX9_readsWord 11 = .ok (.istore_n 2, 1) := by decide +kernel
theorem dX9_readsWord_12 : decode cX9_readsWord 12 = .ok (.iconst 0, 1) := by decide +kernel
theorem dX9_readsWord_13 : decode cX9_readsWord 13 = .ok (.istore_n 3, 1) := by decide +kernel
theorem dX9_readsWord_14 : decode cX9_readsWord 14 = .ok (.aload_n 0, 1) := by decide +kernel
theorem dX9_readsWord_15 : decode cX9_readsWord 15 = .ok (.invokevirtual 163, 3) := by decide +kernel
theorem dX9_readsWord_18 : decode cX9_readsWord 18 = .ok (.i2l, 1) := by decide +kernel
theorem dX9_readsWord_19 : decode cX9_readsWord 19 = .ok (.ldc2_w 166, 3) := by decide +kernel
theorem dX9_readsWord_22 : decode cX9_readsWord 22 = .ok (.ldc2_w 168, 3) := by decide +kernel
theorem dX9_readsWord_25 : decode cX9_readsWord 25 = .ok (.invokestatic 46, 3) := by decide +kernel
theorem dX9_readsWord_28 : decode cX9_readsWord 28 = .ok (.ifCond .eq 44, 3) := by decide +kernel
theorem dX9_readsWord_31 : decode cX9_readsWord 31 = .ok (.iload_n 3, 1) := by decide +kernel
theorem dX9_readsWord_32 : decode cX9_readsWord 32 = .ok (.bipush 10, 2) := by decide +kernel
theorem dX9_readsWord_34 : decode cX9_readsWord 34 = .ok (.if_icmp .ge 38, 3) := by decide +kernel
theorem dX9_readsWord_37 : decode cX9_readsWord 37 = .ok (.aload_n 0, 1) := by decide +kernel
theorem dX9_readsWord_38 : decode cX9_readsWord 38 = .ok (.getfield 7, 3) := by decide +kernel
theorem dX9_readsWord_41 : decode cX9_readsWord 41 = .ok (.iload_n 1, 1) := by decide +kernel
theorem dX9_readsWord_42 : decode cX9_readsWord 42 = .ok (.iconst 4, 1) := by decide +kernel
theorem dX9_readsWord_43 : decode cX9_readsWord 43 = .ok (.iload_n 3, 1) := by decide +kernel
theorem dX9_readsWord_44 : decode cX9_readsWord 44 = .ok (.iadd, 1) := by decide +kernel
theorem dX9_readsWord_45 : decode cX9_readsWord 45 = .ok (.invokestatic 42, 3) := by decide +kernel
theorem dX9_readsWord_48 : decode cX9_readsWord 48 = .ok (.aload_n 0, 1) := by decide +kernel
theorem dX9_readsWord_49 : decode cX9_readsWord 49 = .ok (.invokevirtual 163, 3) := by decide +kernel
theorem dX9_readsWord_52 : decode cX9_readsWord 52 = .ok (.bipush 97, 2) := by decide +kernel
theorem dX9_readsWord_54 : decode cX9_readsWord 54 = .ok (.isub, 1) := by decide +kernel
theorem dX9_readsWord_55 : decode cX9_readsWord 55 = .ok (.iastore, 1) := by decide +kernel
theorem dX9_readsWord_56 : decode cX9_readsWord 56 = .ok (.iinc 3 1, 3) := by decide +kernel
theorem dX9_readsWord_59 : decode cX9_readsWord 59 = .ok (.aload_n 0, 1) := by decide +kernel
theorem dX9_readsWord_60 : decode cX9_readsWord 60 = .ok (.dup, 1) := by decide +kernel
theorem dX9_readsWord_61 : decode cX9_readsWord 61 = .ok (.getfield 160, 3) := by decide +kernel
theorem dX9_readsWord_64 : decode cX9_readsWord 64 = .ok (.iconst 1, 1) := by decide +kernel
theorem dX9_readsWord_65 : decode cX9_readsWord 65 = .ok (.iadd, 1) := by decide +kernel
theorem dX9_readsWord_66 : decode cX9_readsWord 66 = .ok (.putfield 160, 3) := by decide +kernel
theorem dX9_readsWord_69 : decode cX9_readsWord 69 = .ok (.goto (-55), 3) := by decide +kernel
theorem dX9_readsWord_72 : decode cX9_readsWord 72 = .ok (.iload_n 3, 1) := by decide +kernel
theorem dX9_readsWord_73 : decode cX9_readsWord 73 = .ok (.ifCond .eq 12, 3) := by decide +kernel
theorem dX9_readsWord_76 : decode cX9_readsWord 76 = .ok (.aload_n 0, 1) := by decide +kernel
theorem dX9_readsWord_77 : decode cX9_readsWord 77 = .ok (.invokevirtual 163, 3) := by decide +kernel
theorem dX9_readsWord_80 : decode cX9_readsWord 80 = .ok (.bipush 44, 2) := by decide +kernel
theorem dX9_readsWord_82 : decode cX9_readsWord 82 = .ok (.if_icmp .eq 5, 3) := by decide +kernel
theorem dX9_readsWord_85 : decode cX9_readsWord 85 = .ok (.iconst 0, 1) := by decide +kernel
theorem dX9_readsWord_86 : decode cX9_readsWord 86 = .ok (.ireturn, 1) := by decide +kernel
theorem dX9_readsWord_87 : decode cX9_readsWord 87 = .ok (.aload_n 0, 1) := by decide +kernel
theorem dX9_readsWord_88 : decode cX9_readsWord 88 = .ok (.getfield 7, 3) := by decide +kernel
theorem dX9_readsWord_91 : decode cX9_readsWord 91 = .ok (.iload_n 1, 1) := by decide +kernel
theorem dX9_readsWord_92 : decode cX9_readsWord 92 = .ok (.iconst 0, 1) := by decide +kernel
theorem dX9_readsWord_93 : decode cX9_readsWord 93 = .ok (.invokestatic 42, 3) := by decide +kernel
theorem dX9_readsWord_96 : decode cX9_readsWord 96 = .ok (.iload_n 3, 1) := by decide +kernel
theorem dX9_readsWord_97 : decode cX9_readsWord 97 = .ok (.iastore, 1) := by decide +kernel
theorem dX9_readsWord_98 : decode cX9_readsWord 98 = .ok (.iconst 0, 1) := by decide +kernel
theorem dX9_readsWord_99 : decode cX9_readsWord 99 = .ok (.istore 4, 2) := by decide +kernel
theorem dX9_readsWord_101 : decode cX9_readsWord 101 = .ok (.iconst 0, 1) := by decide +kernel
theorem dX9_readsWord_102 : decode cX9_readsWord 102 = .ok (.istore 5, 2) := by decide +kernel
theorem dX9_readsWord_104 : decode cX9_readsWord 104 = .ok (.iload 5, 2) := by decide +kernel
theorem dX9_readsWord_106 : decode cX9_readsWord 106 = .ok (.iload_n 1, 1) := by decide +kernel
theorem dX9_readsWord_107 : decode cX9_readsWord 107 = .ok (.if_icmp .ge 31, 3) := by decide +kernel
theorem dX9_readsWord_110 : decode cX9_readsWord 110 = .ok (.iload 4, 2) := by decide +kernel
theorem dX9_readsWord_112 : decode cX9_readsWord 112 = .ok (.ifCond .ne 13, 3) := by decide +kernel
theorem dX9_readsWord_115 : decode cX9_readsWord 115 = .ok (.aload_n 0, 1) := by decide +kernel
theorem dX9_readsWord_116 : decode cX9_readsWord 116 = .ok (.iload 5, 2) := by decide +kernel
theorem dX9_readsWord_118 : decode cX9_readsWord 118 = .ok (.iload_n 1, 1) := by decide +kernel
theorem dX9_readsWord_119 : decode cX9_readsWord 119 = .ok (.invokevirtual 56, 3) := by decide +kernel
theorem dX9_readsWord_122 : decode cX9_readsWord 122 = .ok (.ifCond .ne 7, 3) := by decide +kernel
theorem dX9_readsWord_125 : decode cX9_readsWord 125 = .ok (.iconst 1, 1) := by decide +kernel
theorem dX9_readsWord_126 : decode cX9_readsWord 126 = .ok (.goto 4, 3) := by decide +kernel
theorem dX9_readsWord_129 : decode cX9_readsWord 129 = .ok (.iconst 0, 1) := by decide +kernel
theorem dX9_readsWord_130 : decode cX9_readsWord 130 = .ok (.istore 4, 2) := by decide +kernel
theorem dX9_readsWord_132 : decode cX9_readsWord 132 = .ok (.iinc 5 1, 3) := by decide +kernel
theorem dX9_readsWord_135 : decode cX9_readsWord 135 = .ok (.goto (-31), 3) := by decide +kernel
theorem dX9_readsWord_138 : decode cX9_readsWord 138 = .ok (.aload_n 0, 1) := by decide +kernel
theorem dX9_readsWord_139 : decode cX9_readsWord 139 = .ok (.iload 4, 2) := by decide +kernel
theorem dX9_readsWord_141 : decode cX9_readsWord 141 = .ok (.ifCond .eq 7, 3) := by decide +kernel
theorem dX9_readsWord_144 : decode cX9_readsWord 144 = .ok (.iload_n 2, 1) := by decide +kernel
theorem dX9_readsWord_145 : decode cX9_readsWord 145 = .ok (.goto 9, 3) := by decide +kernel
theorem dX9_readsWord_148 : decode cX9_readsWord 148 = .ok (.aload_n 0, 1) := by decide +kernel
theorem dX9_readsWord_149 : decode cX9_readsWord 149 = .ok (.getfield 160, 3) := by decide +kernel
theorem dX9_readsWord_152 : decode cX9_readsWord 152 = .ok (.iconst 1, 1) := by decide +kernel
theorem dX9_readsWord_153 : decode cX9_readsWord 153 = .ok (.iadd, 1) := by decide +kernel
theorem dX9_readsWord_154 : decode cX9_readsWord 154 = .ok (.putfield 160, 3) := by decide +kernel
theorem dX9_readsWord_157 : decode cX9_readsWord 157 = .ok (.iload 4, 2) := by decide +kernel
theorem dX9_readsWord_159 : decode cX9_readsWord 159 = .ok (.ifCond .ne 7, 3) := by decide +kernel
theorem dX9_readsWord_162 : decode cX9_readsWord 162 = .ok (.iconst 1, 1) := by decide +kernel
theorem dX9_readsWord_163 : decode cX9_readsWord 163 = .ok (.goto 4, 3) := by decide +kernel
theorem dX9_readsWord_166 : decode cX9_readsWord 166 = .ok (.iconst 0, 1) := by decide +kernel
theorem dX9_readsWord_167 : decode cX9_readsWord 167 = .ok (.ireturn, 1) := by decide +kernel
theorem dX9_readsItem_0 : decode cX9_readsItem 0 = .ok (.aload_n 0, 1) := by decide +kernel
theorem dX9_readsItem_1 : decode cX9_readsItem 1 = .ok (.getfield 7, 3) := by decide +kernel
theorem dX9_readsItem_4 : decode cX9_readsItem 4 = .ok (.iconst 0, 1) := by decide +kernel
theorem dX9_readsItem_5 : decode cX9_readsItem 5 = .ok (.iaload, 1) := by decide +kernel
theorem dX9_readsItem_6 : decode cX9_readsItem 6 = .ok (.bipush 50, 2) := by decide +kernel
theorem dX9_readsItem_8 : decode cX9_readsItem 8 = .ok (.if_icmp .eq 10, 3) := by decide +kernel
theorem dX9_readsItem_11 : decode cX9_readsItem 11 = .ok (.aload_n 0, 1) := by decide +kernel
theorem dX9_readsItem_12 : decode cX9_readsItem 12 = .ok (.invokevirtual 170, 3) := by decide +kernel
theorem dX9_readsItem_15 : decode cX9_readsItem 15 = .ok (.ifCond .ne 5, 3) := by decide +kernel
theorem dX9_readsItem_18 : decode cX9_readsItem 18 = .ok (.iconst 0, 1) := by decide +kernel
theorem dX9_readsItem_19 : decode cX9_readsItem 19 = .ok (.ireturn, 1) := by decide +kernel
theorem dX9_readsItem_20 : decode cX9_readsItem 20 = .ok (.aload_n 0, 1) := by decide +kernel
theorem dX9_readsItem_21 : decode cX9_readsItem 21 = .ok (.getfield 160, 3) := by decide +kernel
theorem dX9_readsItem_24 : decode cX9_readsItem 24 = .ok (.istore_n 1, 1) := by decide +kernel
theorem dX9_readsItem_25 : decode cX9_readsItem 25 = .ok (.iconst 0, 1) := by decide +kernel
theorem dX9_readsItem_26 : decode cX9_readsItem 26 = .ok (.istore_n 2, 1) := by decide +kernel
theorem dX9_readsItem_27 : decode cX9_readsItem 27 = .ok (.aload_n 0, 1) := by decide +kernel
theorem dX9_readsItem_28 : decode cX9_readsItem 28 = .ok (.invokevirtual 163, 3) := by decide +kernel
theorem dX9_readsItem_31 : decode cX9_readsItem 31 = .ok (.i2l, 1) := by decide +kernel
theorem dX9_readsItem_32 : decode cX9_readsItem 32 = .ok (.ldc2_w 174, 3) := by decide +kernel
theorem dX9_readsItem_35 : decode cX9_readsItem 35 = .ok (.ldc2_w 176, 3) := by decide +kernel
theorem dX9_readsItem_38 : decode cX9_readsItem 38 = .ok (.invokestatic 46, 3) := by decide +kernel
theorem dX9_readsItem_41 : decode cX9_readsItem 41 = .ok (.ifCond .eq 39, 3) := by decide +kernel
theorem dX9_readsItem_44 : decode cX9_readsItem 44 = .ok (.aload_n 0, 1) := by decide +kernel
theorem dX9_readsItem_45 : decode cX9_readsItem 45 = .ok (.getfield 160, 3) := by decide +kernel
theorem dX9_readsItem_48 : decode cX9_readsItem 48 = .ok (.iload_n 1, 1) := by decide +kernel
theorem dX9_readsItem_49 : decode cX9_readsItem 49 = .ok (.iconst 3, 1) := by decide +kernel
theorem dX9_readsItem_50 : decode cX9_readsItem 50 = .ok (.iadd, 1) := by decide +kernel
theorem dX9_readsItem_51 : decode cX9_readsItem 51 = .ok (.if_icmp .ge 29, 3) := by decide +kernel
theorem dX9_readsItem_54 : decode cX9_readsItem 54 = .ok (.bipush 10, 2) := by decide +kernel
theorem dX9_readsItem_56 : decode cX9_readsItem 56 = .ok (.iload_n 2, 1) := by decide +kernel
theorem dX9_readsItem_57 : decode cX9_readsItem 57 = .ok (.imul, 1) := by decide +kernel
theorem dX9_readsItem_58 : decode cX9_readsItem 58 = .ok (.aload_n 0, 1) := by decide +kernel
theorem dX9_readsItem_59 : decode cX9_readsItem 59 = .ok (.invokevirtual 163, 3) := by decide +kernel
theorem dX9_readsItem_62 : decode cX9_readsItem 62 = .ok (.iadd, 1) := by decide +kernel
theorem dX9_readsItem_63 : decode cX9_readsItem 63 = .ok (.bipush 48, 2) := by decide +kernel
theorem dX9_readsItem_65 : decode cX9_readsItem 65 = .ok (.isub, 1) := by decide +kernel
theorem dX9_readsItem_66 : decode cX9_readsItem 66 = .ok (.istore_n 2, 1) := by decide +kernel
theorem dX9_readsItem_67 : decode cX9_readsItem 67 = .ok (.aload_n 0, 1) := by decide +kernel
theorem dX9_readsItem_68 : decode cX9_readsItem 68 = .ok (.dup, 1) := by decide +kernel
theorem dX9_readsItem_69 : decode cX9_readsItem 69 = .ok (.getfield 160, 3) := by decide +kernel
theorem dX9_readsItem_72 : decode cX9_readsItem 72 = .ok (.iconst 1, 1) := by decide +kernel
theorem dX9_readsItem_73 : decode cX9_readsItem 73 = .ok (.iadd, 1) := by decide +kernel
theorem dX9_readsItem_74 : decode cX9_readsItem 74 = .ok (.putfield 160, 3) := by decide +kernel
theorem dX9_readsItem_77 : decode cX9_readsItem 77 = .ok (.goto (-50), 3) := by decide +kernel
theorem dX9_readsItem_80 : decode cX9_readsItem 80 = .ok (.aload_n 0, 1) := by decide +kernel
theorem dX9_readsItem_81 : decode cX9_readsItem 81 = .ok (.getfield 160, 3) := by decide +kernel
theorem dX9_readsItem_84 : decode cX9_readsItem 84 = .ok (.iload_n 1, 1) := by decide +kernel
theorem dX9_readsItem_85 : decode cX9_readsItem 85 = .ok (.if_icmp .eq 12, 3) := by decide +kernel
theorem dX9_readsItem_88 : decode cX9_readsItem 88 = .ok (.aload_n 0, 1) := by decide +kernel
theorem dX9_readsItem_89 : decode cX9_readsItem 89 = .ok (.bipush 59, 2) := by decide +kernel
theorem dX9_readsItem_91 : decode cX9_readsItem 91 = .ok (.invokevirtual 178, 3) := by decide +kernel
theorem dX9_readsItem_94 : decode cX9_readsItem 94 = .ok (.ifCond .ne 5, 3) := by decide +kernel
theorem dX9_readsItem_97 : decode cX9_readsItem 97 = .ok (.iconst 0, 1) := by decide +kernel
theorem dX9_readsItem_98 : decode cX9_readsItem 98 = .ok (.ireturn, 1) := by decide +kernel
theorem dX9_readsItem_99 : decode cX9_readsItem 99 = .ok (.aload_n 0, 1) := by decide +kernel
theorem dX9_readsItem_100 : decode cX9_readsItem 100 = .ok (.getfield 7, 3) := by decide +kernel
theorem dX9_readsItem_103 : decode cX9_readsItem 103 = .ok (.aload_n 0, 1) := by decide +kernel
theorem dX9_readsItem_104 : decode cX9_readsItem 104 = .ok (.getfield 7, 3) := by decide +kernel
theorem dX9_readsItem_107 : decode cX9_readsItem 107 = .ok (.iconst 0, 1) := by decide +kernel
theorem dX9_readsItem_108 : decode cX9_readsItem 108 = .ok (.iaload, 1) := by decide +kernel
theorem dX9_readsItem_109 : decode cX9_readsItem 109 = .ok (.iconst 1, 1) := by decide +kernel
theorem dX9_readsItem_110 : decode cX9_readsItem 110 = .ok (.invokestatic 42, 3) := by decide +kernel
theorem dX9_readsItem_113 : decode cX9_readsItem 113 = .ok (.iload_n 2, 1) := by decide +kernel
theorem dX9_readsItem_114 : decode cX9_readsItem 114 = .ok (.iastore, 1) := by decide +kernel
theorem dX9_readsItem_115 : decode cX9_readsItem 115 = .ok (.aload_n 0, 1) := by decide +kernel
theorem dX9_readsItem_116 : decode cX9_readsItem 116 = .ok (.getfield 7, 3) := by decide +kernel
theorem dX9_readsItem_119 : decode cX9_readsItem 119 = .ok (.aload_n 0, 1) := by decide +kernel
theorem dX9_readsItem_120 : decode cX9_readsItem 120 = .ok (.getfield 7, 3) := by decide +kernel
theorem dX9_readsItem_123 : decode cX9_readsItem 123 = .ok (.iconst 0, 1) := by decide +kernel
theorem dX9_readsItem_124 : decode cX9_readsItem 124 = .ok (.iaload, 1) := by decide +kernel
theorem dX9_readsItem_125 : decode cX9_readsItem 125 = .ok (.iconst 2, 1) := by decide +kernel
theorem dX9_readsItem_126 : decode cX9_readsItem 126 = .ok (.invokestatic 42, 3) := by decide +kernel
theorem dX9_readsItem_129 : decode cX9_readsItem 129 = .ok (.iconst 0, 1) := by decide +kernel
theorem dX9_readsItem_130 : decode cX9_readsItem 130 = .ok (.iastore, 1) := by decide +kernel
theorem dX9_readsItem_131 : decode cX9_readsItem 131 = .ok (.aload_n 0, 1) := by decide +kernel
theorem dX9_readsItem_132 : decode cX9_readsItem 132 = .ok (.getfield 7, 3) := by decide +kernel
theorem dX9_readsItem_135 : decode cX9_readsItem 135 = .ok (.aload_n 0, 1) := by decide +kernel
theorem dX9_readsItem_136 : decode cX9_readsItem 136 = .ok (.getfield 7, 3) := by decide +kernel
theorem dX9_readsItem_139 : decode cX9_readsItem 139 = .ok (.iconst 0, 1) := by decide +kernel
theorem dX9_readsItem_140 : decode cX9_readsItem 140 = .ok (.iaload, 1) := by decide +kernel
theorem dX9_readsItem_141 : decode cX9_readsItem 141 = .ok (.iconst 3, 1) := by decide +kernel
theorem dX9_readsItem_142 : decode cX9_readsItem 142 = .ok (.invokestatic 42, 3) := by decide +kernel
theorem dX9_readsItem_145 : decode cX9_readsItem 145 = .ok (.iconst 0, 1) := by decide +kernel
theorem dX9_readsItem_146 : decode cX9_readsItem 146 = .ok (.iastore, 1) := by decide +kernel
theorem dX9_readsItem_147 : decode cX9_readsItem 147 = .ok (.aload_n 0, 1) := by decide +kernel
theorem dX9_readsItem_148 : decode cX9_readsItem 148 = .ok (.getfield 7, 3) := by decide +kernel
theorem dX9_readsItem_151 : decode cX9_readsItem 151 = .ok (.iconst 0, 1) := by decide +kernel
theorem dX9_readsItem_152 : decode cX9_readsItem 152 = .ok (.dup2, 1) := by decide +kernel
theorem dX9_readsItem_153 : decode cX9_readsItem 153 = .ok (.iaload, 1) := by decide +kernel
theorem dX9_readsItem_154 : decode cX9_readsItem 154 = .ok (.iconst 1, 1) := by decide +kernel
theorem dX9_readsItem_155 : decode cX9_readsItem 155 = .ok (.iadd, 1) := by decide +kernel
theorem dX9_readsItem_156 : decode cX9_readsItem 156 = .ok (.iastore, 1) := by decide +kernel
theorem dX9_readsItem_157 : decode cX9_readsItem 157 = .ok (.iconst 1, 1) := by decide +kernel
theorem dX9_readsItem_158 : decode cX9_readsItem 158 = .ok (.ireturn, 1) := by decide +kernel
theorem dX9_load_0 : decode cX9_load 0 = .ok (.aload_n 0, 1) := by decide +kernel
theorem dX9_load_1 : decode cX9_load 1 = .ok (.iconst 0, 1) := by decide +kernel
theorem dX9_load_2 : decode cX9_load 2 = .ok (.putfield 25, 3) := by decide +kernel
theorem dX9_load_5 : decode cX9_load 5 = .ok (.aload_n 0, 1) := by decide +kernel
theorem dX9_load_6 : decode cX9_load 6 = .ok (.invokevirtual 181, 3) := by decide +kernel
theorem dX9_load_9 : decode cX9_load 9 = .ok (.aload_n 0, 1) := by decide +kernel
theorem dX9_load_10 : decode cX9_load 10 = .ok (.getfield 7, 3) := by decide +kernel
theorem dX9_load_13 : decode cX9_load 13 = .ok (.iconst 0, 1) := by decide +kernel
theorem dX9_load_14 : decode cX9_load 14 = .ok (.iconst 0, 1) := by decide +kernel
theorem dX9_load_15 : decode cX9_load 15 = .ok (.iastore, 1) := by decide +kernel
theorem dX9_load_16 : decode cX9_load 16 = .ok (.aload_n 0, 1) := by decide +kernel
theorem dX9_load_17 : decode cX9_load 17 = .ok (.iconst 0, 1) := by decide +kernel
theorem dX9_load_18 : decode cX9_load 18 = .ok (.putfield 160, 3) := by decide +kernel
theorem dX9_load_21 : decode cX9_load 21 = .ok (.aload_n 0, 1) := by decide +kernel
theorem dX9_load_22 : decode cX9_load 22 = .ok (.getfield 160, 3) := by decide +kernel
theorem dX9_load_25 : decode cX9_load 25 = .ok (.aload_n 0, 1) := by decide +kernel
theorem dX9_load_26 : decode cX9_load 26 = .ok (.getfield 157, 3) := by decide +kernel
theorem dX9_load_29 : decode cX9_load 29 = .ok (.if_icmp .ge 22, 3) := by decide +kernel
theorem dX9_load_32 : decode cX9_load 32 = .ok (.aload_n 0, 1) := by decide +kernel
theorem dX9_load_33 : decode cX9_load 33 = .ok (.invokevirtual 184, 3) := by decide +kernel
theorem dX9_load_36 : decode cX9_load 36 = .ok (.ifCond .ne (-15), 3) := by decide +kernel
theorem dX9_load_39 : decode cX9_load 39 = .ok (.aload_n 0, 1) := by decide +kernel
theorem dX9_load_40 : decode cX9_load 40 = .ok (.invokevirtual 187, 3) := by decide +kernel
theorem dX9_load_43 : decode cX9_load 43 = .ok (.bipush (-10), 2) := by decide +kernel
theorem dX9_load_45 : decode cX9_load 45 = .ok (.aload_n 0, 1) := by decide +kernel
theorem dX9_load_46 : decode cX9_load 46 = .ok (.getfield 160, 3) := by decide +kernel
theorem dX9_load_49 : decode cX9_load 49 = .ok (.isub, 1) := by decide +kernel
theorem dX9_load_50 : decode cX9_load 50 = .ok (.ireturn, 1) := by decide +kernel
theorem dX9_load_51 : decode cX9_load 51 = .ok (.aload_n 0, 1) := by decide +kernel
theorem dX9_load_52 : decode cX9_load 52 = .ok (.getfield 7, 3) := by decide +kernel
theorem dX9_load_55 : decode cX9_load 55 = .ok (.bipush 7, 2) := by decide +kernel
theorem dX9_load_57 : decode cX9_load 57 = .ok (.iconst 0, 1) := by decide +kernel
theorem dX9_load_58 : decode cX9_load 58 = .ok (.iastore, 1) := by decide +kernel
theorem dX9_load_59 : decode cX9_load 59 = .ok (.iconst 0, 1) := by decide +kernel
theorem dX9_load_60 : decode cX9_load 60 = .ok (.istore_n 1, 1) := by decide +kernel
theorem dX9_load_61 : decode cX9_load 61 = .ok (.iload_n 1, 1) := by decide +kernel
theorem dX9_load_62 : decode cX9_load 62 = .ok (.sipush 1050, 3) := by decide +kernel
theorem dX9_load_65 : decode cX9_load 65 = .ok (.if_icmp .ge 35, 3) := by decide +kernel
theorem dX9_load_68 : decode cX9_load 68 = .ok (.aload_n 0, 1) := by decide +kernel
theorem dX9_load_69 : decode cX9_load 69 = .ok (.getfield 7, 3) := by decide +kernel
theorem dX9_load_72 : decode cX9_load 72 = .ok (.iload_n 1, 1) := by decide +kernel
theorem dX9_load_73 : decode cX9_load 73 = .ok (.iaload, 1) := by decide +kernel
theorem dX9_load_74 : decode cX9_load 74 = .ok (.istore_n 2, 1) := by decide +kernel
theorem dX9_load_75 : decode cX9_load 75 = .ok (.aload_n 0, 1) := by decide +kernel
theorem dX9_load_76 : decode cX9_load 76 = .ok (.getfield 7, 3) := by decide +kernel
theorem dX9_load_79 : decode cX9_load 79 = .ok (.iload_n 1, 1) := by decide +kernel
theorem dX9_load_80 : decode cX9_load 80 = .ok (.aload_n 0, 1) := by decide +kernel
theorem dX9_load_81 : decode cX9_load 81 = .ok (.getfield 16, 3) := by decide +kernel
theorem dX9_load_84 : decode cX9_load 84 = .ok (.iload_n 1, 1) := by decide +kernel
theorem dX9_load_85 : decode cX9_load 85 = .ok (.iaload, 1) := by decide +kernel
theorem dX9_load_86 : decode cX9_load 86 = .ok (.iastore, 1) := by decide +kernel
theorem dX9_load_87 : decode cX9_load 87 = .ok (.aload_n 0, 1) := by decide +kernel
theorem dX9_load_88 : decode cX9_load 88 = .ok (.getfield 16, 3) := by decide +kernel
theorem dX9_load_91 : decode cX9_load 91 = .ok (.iload_n 1, 1) := by decide +kernel
theorem dX9_load_92 : decode cX9_load 92 = .ok (.iload_n 2, 1) := by decide +kernel
theorem dX9_load_93 : decode cX9_load 93 = .ok (.iastore, 1) := by decide +kernel
theorem dX9_load_94 : decode cX9_load 94 = .ok (.iinc 1 1, 3) := by decide +kernel
theorem dX9_load_97 : decode cX9_load 97 = .ok (.goto (-36), 3) := by decide +kernel
theorem dX9_load_100 : decode cX9_load 100 = .ok (.aload_n 0, 1) := by decide +kernel
theorem dX9_load_101 : decode cX9_load 101 = .ok (.invokevirtual 97, 3) := by decide +kernel
theorem dX9_load_104 : decode cX9_load 104 = .ok (.aload_n 0, 1) := by decide +kernel
theorem dX9_load_105 : decode cX9_load 105 = .ok (.invokevirtual 187, 3) := by decide +kernel
theorem dX9_load_108 : decode cX9_load 108 = .ok (.aload_n 0, 1) := by decide +kernel
theorem dX9_load_109 : decode cX9_load 109 = .ok (.getfield 7, 3) := by decide +kernel
theorem dX9_load_112 : decode cX9_load 112 = .ok (.iconst 0, 1) := by decide +kernel
theorem dX9_load_113 : decode cX9_load 113 = .ok (.iaload, 1) := by decide +kernel
theorem dX9_load_114 : decode cX9_load 114 = .ok (.ireturn, 1) := by decide +kernel
theorem dX9_undo_0 : decode cX9_undo 0 = .ok (.aload_n 0, 1) := by decide +kernel
theorem dX9_undo_1 : decode cX9_undo 1 = .ok (.aload_n 0, 1) := by decide +kernel
theorem dX9_undo_2 : decode cX9_undo 2 = .ok (.getfield 29, 3) := by decide +kernel
theorem dX9_undo_5 : decode cX9_undo 5 = .ok (.ifCond .le 7, 3) := by decide +kernel
theorem dX9_undo_8 : decode cX9_undo 8 = .ok (.iconst 1, 1) := by decide +kernel
theorem dX9_undo_9 : decode cX9_undo 9 = .ok (.goto 4, 3) := by decide +kernel
theorem dX9_undo_12 : decode cX9_undo 12 = .ok (.iconst 0, 1) := by decide +kernel
theorem dX9_undo_13 : decode cX9_undo 13 = .ok (.iconst 1, 1) := by decide +kernel
theorem dX9_undo_14 : decode cX9_undo 14 = .ok (.invokevirtual 72, 3) := by decide +kernel
theorem dX9_undo_17 : decode cX9_undo 17 = .ok (.ifCond .ne 5, 3) := by decide +kernel
theorem dX9_undo_20 : decode cX9_undo 20 = .ok (.iconst 0, 1) := by decide +kernel
theorem dX9_undo_21 : decode cX9_undo 21 = .ok (.ireturn, 1) := by decide +kernel
theorem dX9_undo_22 : decode cX9_undo 22 = .ok (.aload_n 0, 1) := by decide +kernel
theorem dX9_undo_23 : decode cX9_undo 23 = .ok (.dup, 1) := by decide +kernel
theorem dX9_undo_24 : decode cX9_undo 24 = .ok (.getfield 29, 3) := by decide +kernel
theorem dX9_undo_27 : decode cX9_undo 27 = .ok (.iconst 1, 1) := by decide +kernel
theorem dX9_undo_28 : decode cX9_undo 28 = .ok (.isub, 1) := by decide +kernel
theorem dX9_undo_29 : decode cX9_undo 29 = .ok (.putfield 29, 3) := by decide +kernel
theorem dX9_undo_32 : decode cX9_undo 32 = .ok (.iconst 0, 1) := by decide +kernel
theorem dX9_undo_33 : decode cX9_undo 33 = .ok (.istore_n 1, 1) := by decide +kernel
theorem dX9_undo_34 : decode cX9_undo 34 = .ok (.iload_n 1, 1) := by decide +kernel
theorem dX9_undo_35 : decode cX9_undo 35 = .ok (.sipush 1050, 3) := by decide +kernel
theorem dX9_undo_38 : decode cX9_undo 38 = .ok (.if_icmp .ge 30, 3) := by decide +kernel
theorem dX9_undo_41 : decode cX9_undo 41 = .ok (.aload_n 0, 1) := by decide +kernel
theorem dX9_undo_42 : decode cX9_undo 42 = .ok (.getfield 7, 3) := by decide +kernel
theorem dX9_undo_45 : decode cX9_undo 45 = .ok (.iload_n 1, 1) := by decide +kernel
theorem dX9_undo_46 : decode cX9_undo 46 = .ok (.aload_n 0, 1) := by decide +kernel
theorem dX9_undo_47 : decode cX9_undo 47 = .ok (.getfield 13, 3) := by decide +kernel
theorem dX9_undo_50 : decode cX9_undo 50 = .ok (.sipush 1050, 3) := by decide +kernel
theorem dX9_undo_53 : decode cX9_undo 53 = .ok (.aload_n 0, 1) := by decide +kernel
theorem dX9_undo_54 : decode cX9_undo 54 = .ok (.getfield 29, 3) := by decide +kernel
theorem dX9_undo_57 : decode cX9_undo 57 = .ok (.imul, 1) := by decide +kernel
theorem dX9_undo_58 : decode cX9_undo 58 = .ok (.iload_n 1, 1) := by decide +kernel
theorem dX9_undo_59 : decode cX9_undo 59 = .ok (.iadd, 1) := by decide +kernel
theorem dX9_undo_60 : decode cX9_undo 60 = .ok (.iaload, 1) := by decide +kernel
theorem dX9_undo_61 : decode cX9_undo 61 = .ok (.iastore, 1) := by decide +kernel
theorem dX9_undo_62 : decode cX9_undo 62 = .ok (.iinc 1 1, 3) := by decide +kernel
theorem dX9_undo_65 : decode cX9_undo 65 = .ok (.goto (-31), 3) := by decide +kernel
theorem dX9_undo_68 : decode cX9_undo 68 = .ok (.aload_n 0, 1) := by decide +kernel
theorem dX9_undo_69 : decode cX9_undo 69 = .ok (.getfield 29, 3) := by decide +kernel
theorem dX9_undo_72 : decode cX9_undo 72 = .ok (.ireturn, 1) := by decide +kernel
theorem dX9_sums_0 : decode cX9_sums 0 = .ok (.ldc2_w 190, 3) := by decide +kernel
theorem dX9_sums_3 : decode cX9_sums 3 = .ok (.lload_n 0, 1) := by decide +kernel
theorem dX9_sums_4 : decode cX9_sums 4 = .ok (.lmul, 1) := by decide +kernel
theorem dX9_sums_5 : decode cX9_sums 5 = .ok (.lload_n 2, 1) := by decide +kernel
theorem dX9_sums_6 : decode cX9_sums 6 = .ok (.ladd, 1) := by decide +kernel
theorem dX9_sums_7 : decode cX9_sums 7 = .ok (.lreturn, 1) := by decide +kernel
theorem dX9_withWord_0 : decode cX9_withWord 0 = .ok (.lload_n 1, 1) := by decide +kernel
theorem dX9_withWord_1 : decode cX9_withWord 1 = .ok (.lstore 4, 2) := by decide +kernel
theorem dX9_withWord_3 : decode cX9_withWord 3 = .ok (.iconst 0, 1) := by decide +kernel
theorem dX9_withWord_4 : decode cX9_withWord 4 = .ok (.istore 6, 2) := by decide +kernel
theorem dX9_withWord_6 : decode cX9_withWord 6 = .ok (.iload 6, 2) := by decide +kernel
theorem dX9_withWord_8 : decode cX9_withWord 8 = .ok (.iconst 5, 1) := by decide +kernel
theorem dX9_withWord_9 : decode cX9_withWord 9 = .ok (.if_icmp .ge 24, 3) := by decide +kernel
theorem dX9_withWord_12 : decode cX9_withWord 12 = .ok (.lload 4, 2) := by decide +kernel
theorem dX9_withWord_14 : decode cX9_withWord 14 = .ok (.aload_n 0, 1) := by decide +kernel
theorem dX9_withWord_15 : decode cX9_withWord 15 = .ok (.iload_n 3, 1) := by decide +kernel
theorem dX9_withWord_16 : decode cX9_withWord 16 = .ok (.iload 6, 2) := by decide +kernel
theorem dX9_withWord_18 : decode cX9_withWord 18 = .ok (.invokevirtual 76, 3) := by decide +kernel
theorem dX9_withWord_21 : decode cX9_withWord 21 = .ok (.i2l, 1) := by decide +kernel
theorem dX9_withWord_22 : decode cX9_withWord 22 = .ok (.invokestatic 192, 3) := by decide +kernel
theorem dX9_withWord_25 : decode cX9_withWord 25 = .ok (.lstore 4, 2) := by decide +kernel
theorem dX9_withWord_27 : decode cX9_withWord 27 = .ok (.iinc 6 1, 3) := by decide +kernel
theorem dX9_withWord_30 : decode cX9_withWord 30 = .ok (.goto (-24), 3) := by decide +kernel
theorem dX9_withWord_33 : decode cX9_withWord 33 = .ok (.iconst 0, 1) := by decide +kernel
theorem dX9_withWord_34 : decode cX9_withWord 34 = .ok (.istore 6, 2) := by decide +kernel
theorem dX9_withWord_36 : decode cX9_withWord 36 = .ok (.iload 6, 2) := by decide +kernel
theorem dX9_withWord_38 : decode cX9_withWord 38 = .ok (.aload_n 0, 1) := by decide +kernel
theorem dX9_withWord_39 : decode cX9_withWord 39 = .ok (.iload_n 3, 1) := by decide +kernel
theorem dX9_withWord_40 : decode cX9_withWord 40 = .ok (.iconst 0, 1) := by decide +kernel
theorem dX9_withWord_41 : decode cX9_withWord 41 = .ok (.invokevirtual 50, 3) := by decide +kernel
theorem dX9_withWord_44 : decode cX9_withWord 44 = .ok (.if_icmp .ge 24, 3) := by decide +kernel
theorem dX9_withWord_47 : decode cX9_withWord 47 = .ok (.lload 4, 2) := by decide +kernel
theorem dX9_withWord_49 : decode cX9_withWord 49 = .ok (.aload_n 0, 1) := by decide +kernel
theorem dX9_withWord_50 : decode cX9_withWord 50 = .ok (.iload_n 3, 1) := by decide +kernel
theorem dX9_withWord_51 : decode cX9_withWord 51 = .ok (.iload 6, 2) := by decide +kernel
theorem dX9_withWord_53 : decode cX9_withWord 53 = .ok (.invokevirtual 53, 3) := by decide +kernel
theorem dX9_withWord_56 : decode cX9_withWord 56 = .ok (.i2l, 1) := by decide +kernel
theorem dX9_withWord_57 : decode cX9_withWord 57 = .ok (.invokestatic 192, 3) := by decide +kernel
theorem dX9_withWord_60 : decode cX9_withWord 60 = .ok (.lstore 4, 2) := by decide +kernel
theorem dX9_withWord_62 : decode cX9_withWord 62 = .ok (.iinc 6 1, 3) := by decide +kernel
theorem dX9_withWord_65 : decode cX9_withWord 65 = .ok (.goto (-29), 3) := by decide +kernel
theorem dX9_withWord_68 : decode cX9_withWord 68 = .ok (.lload 4, 2) := by decide +kernel
theorem dX9_withWord_70 : decode cX9_withWord 70 = .ok (.aload_n 0, 1) := by decide +kernel
theorem dX9_withWord_71 : decode cX9_withWord 71 = .ok (.iload_n 3, 1) := by decide +kernel
theorem dX9_withWord_72 : decode cX9_withWord 72 = .ok (.invokevirtual 145, 3) := by decide +kernel
theorem dX9_withWord_75 : decode cX9_withWord 75 = .ok (.i2l, 1) := by decide +kernel
theorem dX9_withWord_76 : decode cX9_withWord 76 = .ok (.invokestatic 192, 3) := by decide +kernel
theorem dX9_withWord_79 : decode cX9_withWord 79 = .ok (.lreturn, 1) := by decide +kernel
theorem dX9_digest_0 : decode cX9_digest 0 = .ok (.aload_n 0, 1) := by decide +kernel
theorem dX9_digest_1 : decode cX9_digest 1 = .ok (.iconst 0, 1) := by decide +kernel
theorem dX9_digest_2 : decode cX9_digest 2 = .ok (.putfield 25, 3) := by decide +kernel
theorem dX9_digest_5 : decode cX9_digest 5 = .ok (.ldc2_w 196, 3) := by decide +kernel
theorem dX9_digest_8 : decode cX9_digest 8 = .ok (.aload_n 0, 1) := by decide +kernel
theorem dX9_digest_9 : decode cX9_digest 9 = .ok (.getfield 157, 3) := by decide +kernel
theorem dX9_digest_12 : decode cX9_digest 12 = .ok (.i2l, 1) := by decide +kernel
theorem dX9_digest_13 : decode cX9_digest 13 = .ok (.invokestatic 192, 3) := by decide +kernel
theorem dX9_digest_16 : decode cX9_digest 16 = .ok (.lstore_n 1, 1) := by decide +kernel
theorem dX9_digest_17 : decode cX9_digest 17 = .ok (.iconst 0, 1) := by decide +kernel
theorem dX9_digest_18 : decode cX9_digest 18 = .ok (.istore_n 3, 1) := by decide +kernel
theorem dX9_digest_19 : decode cX9_digest 19 = .ok (.iload_n 3, 1) := by decide +kernel
theorem dX9_digest_20 : decode cX9_digest 20 = .ok (.bipush 11, 2) := by decide +kernel
theorem dX9_digest_22 : decode cX9_digest 22 = .ok (.if_icmp .ge 20, 3) := by decide +kernel
theorem dX9_digest_25 : decode cX9_digest 25 = .ok (.lload_n 1, 1) := by decide +kernel
theorem dX9_digest_26 : decode cX9_digest 26 = .ok (.aload_n 0, 1) := by decide +kernel
theorem dX9_digest_27 : decode cX9_digest 27 = .ok (.iload_n 3, 1) := by decide +kernel
theorem dX9_digest_28 : decode cX9_digest 28 = .ok (.invokevirtual 137, 3) := by decide +kernel
theorem dX9_digest_31 : decode cX9_digest 31 = .ok (.i2l, 1) := by decide +kernel
theorem dX9_digest_32 : decode cX9_digest 32 = .ok (.invokestatic 192, 3) := by decide +kernel
theorem dX9_digest_35 : decode cX9_digest 35 = .ok (.lstore_n 1, 1) := by decide +kernel
theorem dX9_digest_36 : decode cX9_digest 36 = .ok (.iinc 3 1, 3) := by decide +kernel
theorem dX9_digest_39 : decode cX9_digest 39 = .ok (.goto (-20), 3) := by decide +kernel
theorem dX9_digest_42 : decode cX9_digest 42 = .ok (.iconst 0, 1) := by decide +kernel
theorem dX9_digest_43 : decode cX9_digest 43 = .ok (.istore_n 3, 1) := by decide +kernel
theorem dX9_digest_44 : decode cX9_digest 44 = .ok (.iload_n 3, 1) := by decide +kernel
theorem dX9_digest_45 : decode cX9_digest 45 = .ok (.aload_n 0, 1) := by decide +kernel
theorem dX9_digest_46 : decode cX9_digest 46 = .ok (.getfield 7, 3) := by decide +kernel
theorem dX9_digest_49 : decode cX9_digest 49 = .ok (.iconst 0, 1) := by decide +kernel
theorem dX9_digest_50 : decode cX9_digest 50 = .ok (.iaload, 1) := by decide +kernel
theorem dX9_digest_51 : decode cX9_digest 51 = .ok (.if_icmp .ge 16, 3) := by decide +kernel
theorem dX9_digest_54 : decode cX9_digest 54 = .ok (.aload_n 0, 1) := by decide +kernel
theorem dX9_digest_55 : decode cX9_digest 55 = .ok (.lload_n 1, 1) := by decide +kernel
theorem dX9_digest_56 : decode cX9_digest 56 = .ok (.iload_n 3, 1) := by decide +kernel
theorem dX9_digest_57 : decode cX9_digest 57 = .ok (.invokevirtual 198, 3) := by decide +kernel
theorem dX9_digest_60 : decode cX9_digest 60 = .ok (.lstore_n 1, 1) := by decide +kernel
theorem dX9_digest_61 : decode cX9_digest 61 = .ok (.iinc 3 1, 3) := by decide +kernel
theorem dX9_digest_64 : decode cX9_digest 64 = .ok (.goto (-20), 3) := by decide +kernel
theorem dX9_digest_67 : decode cX9_digest 67 = .ok (.iconst 0, 1) := by decide +kernel
theorem dX9_digest_68 : decode cX9_digest 68 = .ok (.istore_n 3, 1) := by decide +kernel
theorem dX9_digest_69 : decode cX9_digest 69 = .ok (.iload_n 3, 1) := by decide +kernel
theorem dX9_digest_70 : decode cX9_digest 70 = .ok (.aload_n 0, 1) := by decide +kernel
theorem dX9_digest_71 : decode cX9_digest 71 = .ok (.getfield 7, 3) := by decide +kernel
theorem dX9_digest_74 : decode cX9_digest 74 = .ok (.bipush 6, 2) := by decide +kernel
theorem dX9_digest_76 : decode cX9_digest 76 = .ok (.iaload, 1) := by decide +kernel
theorem dX9_digest_77 : decode cX9_digest 77 = .ok (.if_icmp .ge 24, 3) := by decide +kernel
theorem dX9_digest_80 : decode cX9_digest 80 = .ok (.lload_n 1, 1) := by decide +kernel
theorem dX9_digest_81 : decode cX9_digest 81 = .ok (.aload_n 0, 1) := by decide +kernel
theorem dX9_digest_82 : decode cX9_digest 82 = .ok (.getfield 7, 3) := by decide +kernel
theorem dX9_digest_85 : decode cX9_digest 85 = .ok (.bipush 10, 2) := by decide +kernel
theorem dX9_digest_87 : decode cX9_digest 87 = .ok (.iload_n 3, 1) := by decide +kernel
theorem dX9_digest_88 : decode cX9_digest 88 = .ok (.iadd, 1) := by decide +kernel
theorem dX9_digest_89 : decode cX9_digest 89 = .ok (.iaload, 1) := by decide +kernel
theorem dX9_digest_90 : decode cX9_digest 90 = .ok (.i2l, 1) := by decide +kernel
theorem dX9_digest_91 : decode cX9_digest 91 = .ok (.invokestatic 192, 3) := by decide +kernel
theorem dX9_digest_94 : decode cX9_digest 94 = .ok (.lstore_n 1, 1) := by decide +kernel
theorem dX9_digest_95 : decode cX9_digest 95 = .ok (.iinc 3 1, 3) := by decide +kernel
theorem dX9_digest_98 : decode cX9_digest 98 = .ok (.goto (-29), 3) := by decide +kernel
theorem dX9_digest_101 : decode cX9_digest 101 = .ok (.aload_n 0, 1) := by decide +kernel
theorem dX9_digest_102 : decode cX9_digest 102 = .ok (.invokevirtual 107, 3) := by decide +kernel
theorem dX9_digest_105 : decode cX9_digest 105 = .ok (.iconst 0, 1) := by decide +kernel
theorem dX9_digest_106 : decode cX9_digest 106 = .ok (.istore_n 3, 1) := by decide +kernel
theorem dX9_digest_107 : decode cX9_digest 107 = .ok (.iload_n 3, 1) := by decide +kernel
theorem dX9_digest_108 : decode cX9_digest 108 = .ok (.aload_n 0, 1) := by decide +kernel
theorem dX9_digest_109 : decode cX9_digest 109 = .ok (.getfield 92, 3) := by decide +kernel
theorem dX9_digest_112 : decode cX9_digest 112 = .ok (.if_icmp .ge 21, 3) := by decide +kernel
theorem dX9_digest_115 : decode cX9_digest 115 = .ok (.lload_n 1, 1) := by decide +kernel
theorem dX9_digest_116 : decode cX9_digest 116 = .ok (.aload_n 0, 1) := by decide +kernel
theorem dX9_digest_117 : decode cX9_digest 117 = .ok (.getfield 19, 3) := by decide +kernel
theorem dX9_digest_120 : decode cX9_digest 120 = .ok (.iload_n 3, 1) := by decide +kernel
theorem dX9_digest_121 : decode cX9_digest 121 = .ok (.iaload, 1) := by decide +kernel
theorem dX9_digest_122 : decode cX9_digest 122 = .ok (.i2l, 1) := by decide +kernel
theorem dX9_digest_123 : decode cX9_digest 123 = .ok (.invokestatic 192, 3) := by decide +kernel
theorem dX9_digest_126 : decode cX9_digest 126 = .ok (.lstore_n 1, 1) := by decide +kernel
theorem dX9_digest_127 : decode cX9_digest 127 = .ok (.iinc 3 1, 3) := by decide +kernel
theorem dX9_digest_130 : decode cX9_digest 130 = .ok (.goto (-23), 3) := by decide +kernel
theorem dX9_digest_133 : decode cX9_digest 133 = .ok (.iconst 0, 1) := by decide +kernel
theorem dX9_digest_134 : decode cX9_digest 134 = .ok (.istore_n 3, 1) := by decide +kernel
theorem dX9_digest_135 : decode cX9_digest 135 = .ok (.iload_n 3, 1) := by decide +kernel
theorem dX9_digest_136 : decode cX9_digest 136 = .ok (.aload_n 0, 1) := by decide +kernel
theorem dX9_digest_137 : decode cX9_digest 137 = .ok (.getfield 7, 3) := by decide +kernel
theorem dX9_digest_140 : decode cX9_digest 140 = .ok (.bipush 8, 2) := by decide +kernel
theorem dX9_digest_142 : decode cX9_digest 142 = .ok (.iaload, 1) := by decide +kernel
theorem dX9_digest_143 : decode cX9_digest 143 = .ok (.if_icmp .ge 56, 3) := by decide +kernel
theorem dX9_digest_146 : decode cX9_digest 146 = .ok (.sipush 720, 3) := by decide +kernel
theorem dX9_digest_149 : decode cX9_digest 149 = .ok (.bipush 11, 2) := by decide +kernel
theorem dX9_digest_151 : decode cX9_digest 151 = .ok (.iload_n 3, 1) := by decide +kernel
theorem dX9_digest_152 : decode cX9_digest 152 = .ok (.imul, 1) := by decide +kernel
theorem dX9_digest_153 : decode cX9_digest 153 = .ok (.iadd, 1) := by decide +kernel
theorem dX9_digest_154 : decode cX9_digest 154 = .ok (.istore 4, 2) := by decide +kernel
theorem dX9_digest_156 : decode cX9_digest 156 = .ok (.iconst 0, 1) := by decide +kernel
theorem dX9_digest_157 : decode cX9_digest 157 = .ok (.istore 5, 2) := by decide +kernel
theorem dX9_digest_159 : decode cX9_digest 159 = .ok (.iload 5, 2) := by decide +kernel
theorem dX9_digest_161 : decode cX9_digest 161 = .ok (.aload_n 0, 1) := by decide +kernel
theorem dX9_digest_162 : decode cX9_digest 162 = .ok (.getfield 7, 3) := by decide +kernel
theorem dX9_digest_165 : decode cX9_digest 165 = .ok (.iload 4, 2) := by decide +kernel
theorem dX9_digest_167 : decode cX9_digest 167 = .ok (.iaload, 1) := by decide +kernel
theorem dX9_digest_168 : decode cX9_digest 168 = .ok (.if_icmp .gt 25, 3) := by decide +kernel
theorem dX9_digest_171 : decode cX9_digest 171 = .ok (.lload_n 1, 1) := by decide +kernel
theorem dX9_digest_172 : decode cX9_digest 172 = .ok (.aload_n 0, 1) := by decide +kernel
theorem dX9_digest_173 : decode cX9_digest 173 = .ok (.getfield 7, 3) := by decide +kernel
theorem dX9_digest_176 : decode cX9_digest 176 = .ok (.iload 4, 2) := by decide +kernel
theorem dX9_digest_178 : decode cX9_digest 178 = .ok (.iload 5, 2) := by decide +kernel
theorem dX9_digest_180 : decode cX9_digest 180 = .ok (.iadd, 1) := by decide +kernel
theorem dX9_digest_181 : decode cX9_digest 181 = .ok (.iaload, 1) := by decide +kernel
theorem dX9_digest_182 : decode cX9_digest 182 = .ok (.i2l, 1) := by decide +kernel
theorem dX9_digest_183 : decode cX9_digest 183 = .ok (.invokestatic 192, 3) := by decide +kernel
theorem dX9_digest_186 : decode cX9_digest 186 = .ok (.lstore_n 1, 1) := by decide +kernel
theorem dX9_digest_187 : decode cX9_digest 187 = .ok (.iinc 5 1, 3) := by decide +kernel
theorem dX9_digest_190 : decode cX9_digest 190 = .ok (.goto (-31), 3) := by decide +kernel
theorem dX9_digest_193 : decode cX9_digest 193 = .ok (.iinc 3 1, 3) := by decide +kernel
theorem dX9_digest_196 : decode cX9_digest 196 = .ok (.goto (-61), 3) := by decide +kernel
theorem dX9_digest_199 : decode cX9_digest 199 = .ok (.lload_n 1, 1) := by decide +kernel
theorem dX9_digest_200 : decode cX9_digest 200 = .ok (.aload_n 0, 1) := by decide +kernel
theorem dX9_digest_201 : decode cX9_digest 201 = .ok (.getfield 29, 3) := by decide +kernel
theorem dX9_digest_204 : decode cX9_digest 204 = .ok (.i2l, 1) := by decide +kernel
theorem dX9_digest_205 : decode cX9_digest 205 = .ok (.invokestatic 192, 3) := by decide +kernel
theorem dX9_digest_208 : decode cX9_digest 208 = .ok (.lreturn, 1) := by decide +kernel
