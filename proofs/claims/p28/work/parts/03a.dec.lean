theorem dX0_init_0 : decode cX0_init 0 = .ok (.aload_n 0, 1) := by decide +kernel
theorem dX0_init_1 : decode cX0_init 1 = .ok (.invokespecial 3, 3) := by decide +kernel
theorem dX0_init_4 : decode cX0_init 4 = .ok (.aload_n 0, 1) := by decide +kernel
theorem dX0_init_5 : decode cX0_init 5 = .ok (.bipush 50, 2) := by decide +kernel
theorem dX0_init_7 : decode cX0_init 7 = .ok (.newarray .int, 2) := by decide +kernel
theorem dX0_init_9 : decode cX0_init 9 = .ok (.putfield 9, 3) := by decide +kernel
theorem dX0_init_12 : decode cX0_init 12 = .ok (.return_, 1) := by decide +kernel
theorem dX0_find_0 : decode cX0_find 0 = .ok (.aload_n 0, 1) := by decide +kernel
theorem dX0_find_1 : decode cX0_find 1 = .ok (.iconst 0, 1) := by decide +kernel
theorem dX0_find_2 : decode cX0_find 2 = .ok (.putfield 15, 3) := by decide +kernel
theorem dX0_find_5 : decode cX0_find 5 = .ok (.aload_n 1, 1) := by decide +kernel
theorem dX0_find_6 : decode cX0_find 6 = .ok (.invokevirtual 19, 3) := by decide +kernel
theorem dX0_find_9 : decode cX0_find 9 = .ok (.istore_n 2, 1) := by decide +kernel
theorem dX0_find_10 : decode cX0_find 10 = .ok (.iload_n 2, 1) := by decide +kernel
theorem dX0_find_11 : decode cX0_find 11 = .ok (.ifCond .ne 4, 3) := by decide +kernel
theorem dX0_find_14 : decode cX0_find 14 = .ok (.return_, 1) := by decide +kernel
theorem dX0_find_15 : decode cX0_find 15 = .ok (.aload_n 1, 1) := by decide +kernel
theorem dX0_find_16 : decode cX0_find 16 = .ok (.getfield 25, 3) := by decide +kernel
theorem dX0_find_19 : decode cX0_find 19 = .ok (.astore_n 3, 1) := by decide +kernel
theorem dX0_find_20 : decode cX0_find 20 = .ok (.iconst 0, 1) := by decide +kernel
theorem dX0_find_21 : decode cX0_find 21 = .ok (.istore 4, 2) := by decide +kernel
theorem dX0_find_23 : decode cX0_find 23 = .ok (.iload 4, 2) := by decide +kernel
theorem dX0_find_25 : decode cX0_find 25 = .ok (.aload_n 3, 1) := by decide +kernel
theorem dX0_find_26 : decode cX0_find 26 = .ok (.getfield 29, 3) := by decide +kernel
theorem dX0_find_29 : decode cX0_find 29 = .ok (.if_icmp .ge 54, 3) := by decide +kernel
theorem dX0_find_32 : decode cX0_find 32 = .ok (.aload_n 3, 1) := by decide +kernel
theorem dX0_find_33 : decode cX0_find 33 = .ok (.iload 4, 2) := by decide +kernel
theorem dX0_find_35 : decode cX0_find 35 = .ok (.invokevirtual 32, 3) := by decide +kernel
theorem dX0_find_38 : decode cX0_find 38 = .ok (.iload_n 2, 1) := by decide +kernel
theorem dX0_find_39 : decode cX0_find 39 = .ok (.invokestatic 36, 3) := by decide +kernel
theorem dX0_find_42 : decode cX0_find 42 = .ok (.istore 5, 2) := by decide +kernel
theorem dX0_find_44 : decode cX0_find 44 = .ok (.aload_n 1, 1) := by decide +kernel
theorem dX0_find_45 : decode cX0_find 45 = .ok (.getfield 42, 3) := by decide +kernel
theorem dX0_find_48 : decode cX0_find 48 = .ok (.ifCond .ne 8, 3) := by decide +kernel
theorem dX0_find_51 : decode cX0_find 51 = .ok (.iload 5, 2) := by decide +kernel
theorem dX0_find_53 : decode cX0_find 53 = .ok (.ifCond .ne 24, 3) := by decide +kernel
theorem dX0_find_56 : decode cX0_find 56 = .ok (.aload_n 3, 1) := by decide +kernel
theorem dX0_find_57 : decode cX0_find 57 = .ok (.iload 4, 2) := by decide +kernel
theorem dX0_find_59 : decode cX0_find 59 = .ok (.aload_n 1, 1) := by decide +kernel
theorem dX0_find_60 : decode cX0_find 60 = .ok (.getfield 46, 3) := by decide +kernel
theorem dX0_find_63 : decode cX0_find 63 = .ok (.invokevirtual 50, 3) := by decide +kernel
theorem dX0_find_66 : decode cX0_find 66 = .ok (.ifCond .eq 11, 3) := by decide +kernel
theorem dX0_find_69 : decode cX0_find 69 = .ok (.aload_n 0, 1) := by decide +kernel
theorem dX0_find_70 : decode cX0_find 70 = .ok (.aload_n 3, 1) := by decide +kernel
theorem dX0_find_71 : decode cX0_find 71 = .ok (.iload 4, 2) := by decide +kernel
theorem dX0_find_73 : decode cX0_find 73 = .ok (.iload_n 2, 1) := by decide +kernel
theorem dX0_find_74 : decode cX0_find 74 = .ok (.invokevirtual 54, 3) := by decide +kernel
theorem dX0_find_77 : decode cX0_find 77 = .ok (.iinc 4 1, 3) := by decide +kernel
theorem dX0_find_80 : decode cX0_find 80 = .ok (.goto (-57), 3) := by decide +kernel
theorem dX0_find_83 : decode cX0_find 83 = .ok (.return_, 1) := by decide +kernel
theorem dX0_wordAt_0 : decode cX0_wordAt 0 = .ok (.iload_n 1, 1) := by decide +kernel
theorem dX0_wordAt_1 : decode cX0_wordAt 1 = .ok (.ifCond .lt 26, 3) := by decide +kernel
theorem dX0_wordAt_4 : decode cX0_wordAt 4 = .ok (.iload_n 1, 1) := by decide +kernel
theorem dX0_wordAt_5 : decode cX0_wordAt 5 = .ok (.aload_n 0, 1) := by decide +kernel
theorem dX0_wordAt_6 : decode cX0_wordAt 6 = .ok (.getfield 15, 3) := by decide +kernel
theorem dX0_wordAt_9 : decode cX0_wordAt 9 = .ok (.if_icmp .ge 18, 3) := by decide +kernel
theorem dX0_wordAt_12 : decode cX0_wordAt 12 = .ok (.iload_n 1, 1) := by decide +kernel
theorem dX0_wordAt_13 : decode cX0_wordAt 13 = .ok (.bipush 50, 2) := by decide +kernel
theorem dX0_wordAt_15 : decode cX0_wordAt 15 = .ok (.if_icmp .ge 12, 3) := by decide +kernel
theorem dX0_wordAt_18 : decode cX0_wordAt 18 = .ok (.aload_n 0, 1) := by decide +kernel
theorem dX0_wordAt_19 : decode cX0_wordAt 19 = .ok (.getfield 9, 3) := by decide +kernel
theorem dX0_wordAt_22 : decode cX0_wordAt 22 = .ok (.iload_n 1, 1) := by decide +kernel
theorem dX0_wordAt_23 : decode cX0_wordAt 23 = .ok (.iaload, 1) := by decide +kernel
theorem dX0_wordAt_24 : decode cX0_wordAt 24 = .ok (.goto 4, 3) := by decide +kernel
theorem dX0_wordAt_27 : decode cX0_wordAt 27 = .ok (.iconst (-1), 1) := by decide +kernel
theorem dX0_wordAt_28 : decode cX0_wordAt 28 = .ok (.ireturn, 1) := by decide +kernel
theorem dX0_insert_0 : decode cX0_insert 0 = .ok (.aload_n 0, 1) := by decide +kernel
theorem dX0_insert_1 : decode cX0_insert 1 = .ok (.getfield 15, 3) := by decide +kernel
theorem dX0_insert_4 : decode cX0_insert 4 = .ok (.bipush 50, 2) := by decide +kernel
theorem dX0_insert_6 : decode cX0_insert 6 = .ok (.if_icmp .lt 4, 3) := by decide +kernel
theorem dX0_insert_9 : decode cX0_insert 9 = .ok (.return_, 1) := by decide +kernel
theorem dX0_insert_10 : decode cX0_insert 10 = .ok (.aload_n 0, 1) := by decide +kernel
theorem dX0_insert_11 : decode cX0_insert 11 = .ok (.getfield 15, 3) := by decide +kernel
theorem dX0_insert_14 : decode cX0_insert 14 = .ok (.istore 4, 2) := by decide +kernel
theorem dX0_insert_16 : decode cX0_insert 16 = .ok (.iload 4, 2) := by decide +kernel
theorem dX0_insert_18 : decode cX0_insert 18 = .ok (.ifCond .le 43, 3) := by decide +kernel
theorem dX0_insert_21 : decode cX0_insert 21 = .ok (.aload_n 1, 1) := by decide +kernel
theorem dX0_insert_22 : decode cX0_insert 22 = .ok (.iload_n 2, 1) := by decide +kernel
theorem dX0_insert_23 : decode cX0_insert 23 = .ok (.aload_n 0, 1) := by decide +kernel
theorem dX0_insert_24 : decode cX0_insert 24 = .ok (.getfield 9, 3) := by decide +kernel
theorem dX0_insert_27 : decode cX0_insert 27 = .ok (.iload 4, 2) := by decide +kernel
theorem dX0_insert_29 : decode cX0_insert 29 = .ok (.iconst 1, 1) := by decide +kernel
theorem dX0_insert_30 : decode cX0_insert 30 = .ok (.isub, 1) := by decide +kernel
theorem dX0_insert_31 : decode cX0_insert 31 = .ok (.iaload, 1) := by decide +kernel
theorem dX0_insert_32 : decode cX0_insert 32 = .ok (.iload_n 3, 1) := by decide +kernel
theorem dX0_insert_33 : decode cX0_insert 33 = .ok (.invokestatic 58, 3) := by decide +kernel
theorem dX0_insert_36 : decode cX0_insert 36 = .ok (.ifCond .eq 25, 3) := by decide +kernel
theorem dX0_insert_39 : decode cX0_insert 39 = .ok (.aload_n 0, 1) := by decide +kernel
theorem dX0_insert_40 : decode cX0_insert 40 = .ok (.getfield 9, 3) := by decide +kernel
theorem dX0_insert_43 : decode cX0_insert 43 = .ok (.iload 4, 2) := by decide +kernel
theorem dX0_insert_45 : decode cX0_insert 45 = .ok (.aload_n 0, 1) := by decide +kernel
theorem dX0_insert_46 : decode cX0_insert 46 = .ok (.getfield 9, 3) := by decide +kernel
theorem dX0_insert_49 : decode cX0_insert 49 = .ok (.iload 4, 2) := by decide +kernel
theorem dX0_insert_51 : decode cX0_insert 51 = .ok (.iconst 1, 1) := by decide +kernel
theorem dX0_insert_52 : decode cX0_insert 52 = .ok (.isub, 1) := by decide +kernel
theorem dX0_insert_53 : decode cX0_insert 53 = .ok (.iaload, 1) := by decide +kernel
theorem dX0_insert_54 : decode cX0_insert 54 = .ok (.iastore, 1) := by decide +kernel
theorem dX0_insert_55 : decode cX0_insert 55 = .ok (.iinc 4 (-1), 3) := by decide +kernel
theorem dX0_insert_58 : decode cX0_insert 58 = .ok (.goto (-42), 3) := by decide +kernel
theorem dX0_insert_61 : decode cX0_insert 61 = .ok (.aload_n 0, 1) := by decide +kernel
theorem dX0_insert_62 : decode cX0_insert 62 = .ok (.getfield 9, 3) := by decide +kernel
theorem dX0_insert_65 : decode cX0_insert 65 = .ok (.iload 4, 2) := by decide +kernel
theorem dX0_insert_67 : decode cX0_insert 67 = .ok (.iload_n 2, 1) := by decide +kernel
theorem dX0_insert_68 : decode cX0_insert 68 = .ok (.iastore, 1) := by decide +kernel
theorem dX0_insert_69 : decode cX0_insert 69 = .ok (.aload_n 0, 1) := by decide +kernel
theorem dX0_insert_70 : decode cX0_insert 70 = .ok (.dup, 1) := by decide +kernel
theorem dX0_insert_71 : decode cX0_insert 71 = .ok (.getfield 15, 3) := by decide +kernel
theorem dX0_insert_74 : decode cX0_insert 74 = .ok (.iconst 1, 1) := by decide +kernel
theorem dX0_insert_75 : decode cX0_insert 75 = .ok (.iadd, 1) := by decide +kernel
theorem dX0_insert_76 : decode cX0_insert 76 = .ok (.putfield 15, 3) := by decide +kernel
theorem dX0_insert_79 : decode cX0_insert 79 = .ok (.return_, 1) := by decide +kernel
theorem dX0_firstWith_0 : decode cX0_firstWith 0 = .ok (.lload_n 1, 1) := by decide +kernel
theorem dX0_firstWith_1 : decode cX0_firstWith 1 = .ok (.invokestatic 62, 3) := by decide +kernel
theorem dX0_firstWith_4 : decode cX0_firstWith 4 = .ok (.istore_n 3, 1) := by decide +kernel
theorem dX0_firstWith_5 : decode cX0_firstWith 5 = .ok (.iconst (-1), 1) := by decide +kernel
theorem dX0_firstWith_6 : decode cX0_firstWith 6 = .ok (.istore 4, 2) := by decide +kernel
theorem dX0_firstWith_8 : decode cX0_firstWith 8 = .ok (.iconst 0, 1) := by decide +kernel
theorem dX0_firstWith_9 : decode cX0_firstWith 9 = .ok (.istore 5, 2) := by decide +kernel
theorem dX0_firstWith_11 : decode cX0_firstWith 11 = .ok (.iload 5, 2) := by decide +kernel
theorem dX0_firstWith_13 : decode cX0_firstWith 13 = .ok (.aload_n 0, 1) := by decide +kernel
theorem dX0_firstWith_14 : decode cX0_firstWith 14 = .ok (.getfield 29, 3) := by decide +kernel
theorem dX0_firstWith_17 : decode cX0_firstWith 17 = .ok (.if_icmp .ge 41, 3) := by decide +kernel
theorem dX0_firstWith_20 : decode cX0_firstWith 20 = .ok (.aload_n 0, 1) := by decide +kernel
theorem dX0_firstWith_21 : decode cX0_firstWith 21 = .ok (.iload 5, 2) := by decide +kernel
theorem dX0_firstWith_23 : decode cX0_firstWith 23 = .ok (.lload_n 1, 1) := by decide +kernel
theorem dX0_firstWith_24 : decode cX0_firstWith 24 = .ok (.invokevirtual 50, 3) := by decide +kernel
theorem dX0_firstWith_27 : decode cX0_firstWith 27 = .ok (.ifCond .eq 25, 3) := by decide +kernel
theorem dX0_firstWith_30 : decode cX0_firstWith 30 = .ok (.iload 4, 2) := by decide +kernel
theorem dX0_firstWith_32 : decode cX0_firstWith 32 = .ok (.iconst (-1), 1) := by decide +kernel
theorem dX0_firstWith_33 : decode cX0_firstWith 33 = .ok (.if_icmp .eq 15, 3) := by decide +kernel
theorem dX0_firstWith_36 : decode cX0_firstWith 36 = .ok (.aload_n 0, 1) := by decide +kernel
theorem dX0_firstWith_37 : decode cX0_firstWith 37 = .ok (.iload 5, 2) := by decide +kernel
theorem dX0_firstWith_39 : decode cX0_firstWith 39 = .ok (.iload 4, 2) := by decide +kernel
theorem dX0_firstWith_41 : decode cX0_firstWith 41 = .ok (.iload_n 3, 1) := by decide +kernel
theorem dX0_firstWith_42 : decode cX0_firstWith 42 = .ok (.invokestatic 58, 3) := by decide +kernel
theorem dX0_firstWith_45 : decode cX0_firstWith 45 = .ok (.ifCond .eq 7, 3) := by decide +kernel
theorem dX0_firstWith_48 : decode cX0_firstWith 48 = .ok (.iload 5, 2) := by decide +kernel
theorem dX0_firstWith_50 : decode cX0_firstWith 50 = .ok (.istore 4, 2) := by decide +kernel
theorem dX0_firstWith_52 : decode cX0_firstWith 52 = .ok (.iinc 5 1, 3) := by decide +kernel
theorem dX0_firstWith_55 : decode cX0_firstWith 55 = .ok (.goto (-44), 3) := by decide +kernel
theorem dX0_firstWith_58 : decode cX0_firstWith 58 = .ok (.iload 4, 2) := by decide +kernel
theorem dX0_firstWith_60 : decode cX0_firstWith 60 = .ok (.ireturn, 1) := by decide +kernel
theorem dX0_comesBefore_0 : decode cX0_comesBefore 0 = .ok (.aload_n 0, 1) := by decide +kernel
theorem dX0_comesBefore_1 : decode cX0_comesBefore 1 = .ok (.iload_n 1, 1) := by decide +kernel
theorem dX0_comesBefore_2 : decode cX0_comesBefore 2 = .ok (.invokevirtual 32, 3) := by decide +kernel
theorem dX0_comesBefore_5 : decode cX0_comesBefore 5 = .ok (.iload_n 3, 1) := by decide +kernel
theorem dX0_comesBefore_6 : decode cX0_comesBefore 6 = .ok (.invokestatic 36, 3) := by decide +kernel
theorem dX0_comesBefore_9 : decode cX0_comesBefore 9 = .ok (.istore 4, 2) := by decide +kernel
theorem dX0_comesBefore_11 : decode cX0_comesBefore 11 = .ok (.iload 4, 2) := by decide +kernel
theorem dX0_comesBefore_13 : decode cX0_comesBefore 13 = .ok (.aload_n 0, 1) := by decide +kernel
theorem dX0_comesBefore_14 : decode cX0_comesBefore 14 = .ok (.iload_n 2, 1) := by decide +kernel
theorem dX0_comesBefore_15 : decode cX0_comesBefore 15 = .ok (.invokevirtual 32, 3) := by decide +kernel
theorem dX0_comesBefore_18 : decode cX0_comesBefore 18 = .ok (.iload_n 3, 1) := by decide +kernel
theorem dX0_comesBefore_19 : decode cX0_comesBefore 19 = .ok (.invokestatic 36, 3) := by decide +kernel
theorem dX0_comesBefore_22 : decode cX0_comesBefore 22 = .ok (.if_icmp .eq 14, 3) := by decide +kernel
theorem dX0_comesBefore_25 : decode cX0_comesBefore 25 = .ok (.iload 4, 2) := by decide +kernel
theorem dX0_comesBefore_27 : decode cX0_comesBefore 27 = .ok (.ifCond .ne 7, 3) := by decide +kernel
theorem dX0_comesBefore_30 : decode cX0_comesBefore 30 = .ok (.iconst 1, 1) := by decide +kernel
theorem dX0_comesBefore_31 : decode cX0_comesBefore 31 = .ok (.goto 4, 3) := by decide +kernel
theorem dX0_comesBefore_34 : decode cX0_comesBefore 34 = .ok (.iconst 0, 1) := by decide +kernel
theorem dX0_comesBefore_35 : decode cX0_comesBefore 35 = .ok (.ireturn, 1) := by decide +kernel
theorem dX0_comesBefore_36 : decode cX0_comesBefore 36 = .ok (.aload_n 0, 1) := by decide +kernel
theorem dX0_comesBefore_37 : decode cX0_comesBefore 37 = .ok (.iload_n 1, 1) := by decide +kernel
theorem dX0_comesBefore_38 : decode cX0_comesBefore 38 = .ok (.iload_n 2, 1) := by decide +kernel
theorem dX0_comesBefore_39 : decode cX0_comesBefore 39 = .ok (.invokevirtual 66, 3) := by decide +kernel
theorem dX0_comesBefore_42 : decode cX0_comesBefore 42 = .ok (.ireturn, 1) := by decide +kernel
theorem dX1_isKey_0 : decode cX1_isKey 0 = .ok (.iload_n 0, 1) := by decide +kernel
theorem dX1_isKey_1 : decode cX1_isKey 1 = .ok (.iconst 2, 1) := by decide +kernel
theorem dX1_isKey_2 : decode cX1_isKey 2 = .ok (.if_icmp .lt 13, 3) := by decide +kernel
theorem dX1_isKey_5 : decode cX1_isKey 5 = .ok (.iload_n 0, 1) := by decide +kernel
theorem dX1_isKey_6 : decode cX1_isKey 6 = .ok (.bipush 9, 2) := by decide +kernel
theorem dX1_isKey_8 : decode cX1_isKey 8 = .ok (.if_icmp .gt 7, 3) := by decide +kernel
theorem dX1_isKey_11 : decode cX1_isKey 11 = .ok (.iconst 1, 1) := by decide +kernel
theorem dX1_isKey_12 : decode cX1_isKey 12 = .ok (.goto 4, 3) := by decide +kernel
theorem dX1_isKey_15 : decode cX1_isKey 15 = .ok (.iconst 0, 1) := by decide +kernel
theorem dX1_isKey_16 : decode cX1_isKey 16 = .ok (.ireturn, 1) := by decide +kernel
theorem dX1_keyWith_0 : decode cX1_keyWith 0 = .ok (.iload_n 0, 1) := by decide +kernel
theorem dX1_keyWith_1 : decode cX1_keyWith 1 = .ok (.ifCond .lt 19, 3) := by decide +kernel
theorem dX1_keyWith_4 : decode cX1_keyWith 4 = .ok (.iload_n 0, 1) := by decide +kernel
theorem dX1_keyWith_5 : decode cX1_keyWith 5 = .ok (.getstatic 11, 3) := by decide +kernel
theorem dX1_keyWith_8 : decode cX1_keyWith 8 = .ok (.arraylength, 1) := by decide +kernel
theorem dX1_keyWith_9 : decode cX1_keyWith 9 = .ok (.if_icmp .ge 11, 3) := by decide +kernel
theorem dX1_keyWith_12 : decode cX1_keyWith 12 = .ok (.getstatic 11, 3) := by decide +kernel
theorem dX1_keyWith_15 : decode cX1_keyWith 15 = .ok (.iload_n 0, 1) := by decide +kernel
theorem dX1_keyWith_16 : decode cX1_keyWith 16 = .ok (.iaload, 1) := by decide +kernel
theorem dX1_keyWith_17 : decode cX1_keyWith 17 = .ok (.goto 4, 3) := by decide +kernel
theorem dX1_keyWith_20 : decode cX1_keyWith 20 = .ok (.iconst (-1), 1) := by decide +kernel
theorem dX1_keyWith_21 : decode cX1_keyWith 21 = .ok (.ireturn, 1) := by decide +kernel
theorem dX1_firstLetter_0 : decode cX1_firstLetter 0 = .ok (.iload_n 0, 1) := by decide +kernel
theorem dX1_firstLetter_1 : decode cX1_firstLetter 1 = .ok (.invokestatic 15, 3) := by decide +kernel
theorem dX1_firstLetter_4 : decode cX1_firstLetter 4 = .ok (.ifCond .eq 13, 3) := by decide +kernel
theorem dX1_firstLetter_7 : decode cX1_firstLetter 7 = .ok (.getstatic 19, 3) := by decide +kernel
theorem dX1_firstLetter_10 : decode cX1_firstLetter 10 = .ok (.iload_n 0, 1) := by decide +kernel
theorem dX1_firstLetter_11 : decode cX1_firstLetter 11 = .ok (.iconst 2, 1) := by decide +kernel
theorem dX1_firstLetter_12 : decode cX1_firstLetter 12 = .ok (.isub, 1) := by decide +kernel
theorem dX1_firstLetter_13 : decode cX1_firstLetter 13 = .ok (.iaload, 1) := by decide +kernel
theorem dX1_firstLetter_14 : decode cX1_firstLetter 14 = .ok (.goto 4, 3) := by decide +kernel
theorem dX1_firstLetter_17 : decode cX1_firstLetter 17 = .ok (.iconst 0, 1) := by decide +kernel
theorem dX1_firstLetter_18 : decode cX1_firstLetter 18 = .ok (.ireturn, 1) := by decide +kernel
theorem dX1_letterBehind_0 : decode cX1_letterBehind 0 = .ok (.iload_n 0, 1) := by decide +kernel
theorem dX1_letterBehind_1 : decode cX1_letterBehind 1 = .ok (.invokestatic 22, 3) := by decide +kernel
theorem dX1_letterBehind_4 : decode cX1_letterBehind 4 = .ok (.istore_n 1, 1) := by decide +kernel
theorem dX1_letterBehind_5 : decode cX1_letterBehind 5 = .ok (.iload_n 0, 1) := by decide +kernel
theorem dX1_letterBehind_6 : decode cX1_letterBehind 6 = .ok (.iconst 1, 1) := by decide +kernel
theorem dX1_letterBehind_7 : decode cX1_letterBehind 7 = .ok (.iadd, 1) := by decide +kernel
theorem dX1_letterBehind_8 : decode cX1_letterBehind 8 = .ok (.invokestatic 22, 3) := by decide +kernel
theorem dX1_letterBehind_11 : decode cX1_letterBehind 11 = .ok (.iload_n 1, 1) := by decide +kernel
theorem dX1_letterBehind_12 : decode cX1_letterBehind 12 = .ok (.if_icmp .ne 9, 3) := by decide +kernel
theorem dX1_letterBehind_15 : decode cX1_letterBehind 15 = .ok (.iload_n 0, 1) := by decide +kernel
theorem dX1_letterBehind_16 : decode cX1_letterBehind 16 = .ok (.iconst 1, 1) := by decide +kernel
theorem dX1_letterBehind_17 : decode cX1_letterBehind 17 = .ok (.iadd, 1) := by decide +kernel
theorem dX1_letterBehind_18 : decode cX1_letterBehind 18 = .ok (.goto 7, 3) := by decide +kernel
theorem dX1_letterBehind_21 : decode cX1_letterBehind 21 = .ok (.iload_n 1, 1) := by decide +kernel
theorem dX1_letterBehind_22 : decode cX1_letterBehind 22 = .ok (.invokestatic 26, 3) := by decide +kernel
theorem dX1_letterBehind_25 : decode cX1_letterBehind 25 = .ok (.ireturn, 1) := by decide +kernel
theorem dX1_tapsOf_0 : decode cX1_tapsOf 0 = .ok (.iload_n 0, 1) := by decide +kernel
theorem dX1_tapsOf_1 : decode cX1_tapsOf 1 = .ok (.iload_n 0, 1) := by decide +kernel
theorem dX1_tapsOf_2 : decode cX1_tapsOf 2 = .ok (.invokestatic 22, 3) := by decide +kernel
theorem dX1_tapsOf_5 : decode cX1_tapsOf 5 = .ok (.invokestatic 26, 3) := by decide +kernel
theorem dX1_tapsOf_8 : decode cX1_tapsOf 8 = .ok (.isub, 1) := by decide +kernel
theorem dX1_tapsOf_9 : decode cX1_tapsOf 9 = .ok (.iconst 1, 1) := by decide +kernel
theorem dX1_tapsOf_10 : decode cX1_tapsOf 10 = .ok (.iadd, 1) := by decide +kernel
theorem dX1_tapsOf_11 : decode cX1_tapsOf 11 = .ok (.ireturn, 1) := by decide +kernel
theorem dX2_init_0 : decode cX2_init 0 = .ok (.aload_n 0, 1) := by decide +kernel
theorem dX2_init_1 : decode cX2_init 1 = .ok (.invokespecial 3, 3) := by decide +kernel
theorem dX2_init_4 : decode cX2_init 4 = .ok (.aload_n 0, 1) := by decide +kernel
theorem dX2_init_5 : decode cX2_init 5 = .ok (.sipush 150, 3) := by decide +kernel
theorem dX2_init_8 : decode cX2_init 8 = .ok (.newarray .int, 2) := by decide +kernel
theorem dX2_init_10 : decode cX2_init 10 = .ok (.putfield 9, 3) := by decide +kernel
theorem dX2_init_13 : decode cX2_init 13 = .ok (.return_, 1) := by decide +kernel
theorem dX2_isFull_0 : decode cX2_isFull 0 = .ok (.aload_n 0, 1) := by decide +kernel
theorem dX2_isFull_1 : decode cX2_isFull 1 = .ok (.getfield 15, 3) := by decide +kernel
theorem dX2_isFull_4 : decode cX2_isFull 4 = .ok (.sipush 150, 3) := by decide +kernel
theorem dX2_isFull_7 : decode cX2_isFull 7 = .ok (.if_icmp .lt 7, 3) := by decide +kernel
theorem dX2_isFull_10 : decode cX2_isFull 10 = .ok (.iconst 1, 1) := by decide +kernel
theorem dX2_isFull_11 : decode cX2_isFull 11 = .ok (.goto 4, 3) := by decide +kernel
theorem dX2_isFull_14 : decode cX2_isFull 14 = .ok (.iconst 0, 1) := by decide +kernel
theorem dX2_isFull_15 : decode cX2_isFull 15 = .ok (.ireturn, 1) := by decide +kernel
theorem dX2_addByte_0 : decode cX2_addByte 0 = .ok (.aload_n 0, 1) := by decide +kernel
theorem dX2_addByte_1 : decode cX2_addByte 1 = .ok (.invokevirtual 19, 3) := by decide +kernel
theorem dX2_addByte_4 : decode cX2_addByte 4 = .ok (.ifCond .ne 23, 3) := by decide +kernel
theorem dX2_addByte_7 : decode cX2_addByte 7 = .ok (.aload_n 0, 1) := by decide +kernel
theorem dX2_addByte_8 : decode cX2_addByte 8 = .ok (.getfield 9, 3) := by decide +kernel
theorem dX2_addByte_11 : decode cX2_addByte 11 = .ok (.aload_n 0, 1) := by decide +kernel
theorem dX2_addByte_12 : decode cX2_addByte 12 = .ok (.getfield 15, 3) := by decide +kernel
theorem dX2_addByte_15 : decode cX2_addByte 15 = .ok (.iload_n 1, 1) := by decide +kernel
theorem dX2_addByte_16 : decode cX2_addByte 16 = .ok (.iastore, 1) := by decide +kernel
theorem dX2_addByte_17 : decode cX2_addByte 17 = .ok (.aload_n 0, 1) := by decide +kernel
theorem dX2_addByte_18 : decode cX2_addByte 18 = .ok (.dup, 1) := by decide +kernel
theorem dX2_addByte_19 : decode cX2_addByte 19 = .ok (.getfield 15, 3) := by decide +kernel
theorem dX2_addByte_22 : decode cX2_addByte 22 = .ok (.iconst 1, 1) := by decide +kernel
theorem dX2_addByte_23 : decode cX2_addByte 23 = .ok (.iadd, 1) := by decide +kernel
theorem dX2_addByte_24 : decode cX2_addByte 24 = .ok (.putfield 15, 3) := by decide +kernel
theorem dX2_addByte_27 : decode cX2_addByte 27 = .ok (.return_, 1) := by decide +kernel
theorem dX2_readInto_0 : decode cX2_readInto 0 = .ok (.aload_n 1, 1) := by decide +kernel
theorem dX2_readInto_1 : decode cX2_readInto 1 = .ok (.invokevirtual 23, 3) := by decide +kernel
theorem dX2_readInto_4 : decode cX2_readInto 4 = .ok (.aload_n 0, 1) := by decide +kernel
theorem dX2_readInto_5 : decode cX2_readInto 5 = .ok (.iconst 0, 1) := by decide +kernel
theorem dX2_readInto_6 : decode cX2_readInto 6 = .ok (.putfield 28, 3) := by decide +kernel
theorem dX2_readInto_9 : decode cX2_readInto 9 = .ok (.iconst 0, 1) := by decide +kernel
theorem dX2_readInto_10 : decode cX2_readInto 10 = .ok (.istore_n 2, 1) := by decide +kernel
theorem dX2_readInto_11 : decode cX2_readInto 11 = .ok (.iload_n 2, 1) := by decide +kernel
theorem dX2_readInto_12 : decode cX2_readInto 12 = .ok (.bipush 50, 2) := by decide +kernel
theorem dX2_readInto_14 : decode cX2_readInto 14 = .ok (.if_icmp .gt 33, 3) := by decide +kernel
theorem dX2_readInto_17 : decode cX2_readInto 17 = .ok (.aload_n 0, 1) := by decide +kernel
theorem dX2_readInto_18 : decode cX2_readInto 18 = .ok (.getfield 28, 3) := by decide +kernel
theorem dX2_readInto_21 : decode cX2_readInto 21 = .ok (.aload_n 0, 1) := by decide +kernel
theorem dX2_readInto_22 : decode cX2_readInto 22 = .ok (.getfield 15, 3) := by decide +kernel
theorem dX2_readInto_25 : decode cX2_readInto 25 = .ok (.if_icmp .ge 22, 3) := by decide +kernel
theorem dX2_readInto_28 : decode cX2_readInto 28 = .ok (.aload_n 0, 1) := by decide +kernel
theorem dX2_readInto_29 : decode cX2_readInto 29 = .ok (.aload_n 1, 1) := by decide +kernel
theorem dX2_readInto_30 : decode cX2_readInto 30 = .ok (.invokevirtual 31, 3) := by decide +kernel
theorem dX2_readInto_33 : decode cX2_readInto 33 = .ok (.ifCond .ne 8, 3) := by decide +kernel
theorem dX2_readInto_36 : decode cX2_readInto 36 = .ok (.aload_n 0, 1) := by decide +kernel
theorem dX2_readInto_37 : decode cX2_readInto 37 = .ok (.getfield 28, 3) := by decide +kernel
theorem dX2_readInto_40 : decode cX2_readInto 40 = .ok (.ireturn, 1) := by decide +kernel
theorem dX2_readInto_41 : decode cX2_readInto 41 = .ok (.iinc 2 1, 3) := by decide +kernel
theorem dX2_readInto_44 : decode cX2_readInto 44 = .ok (.goto (-33), 3) := by decide +kernel
theorem dX2_readInto_47 : decode cX2_readInto 47 = .ok (.iconst (-1), 1) := by decide +kernel
theorem dX2_readInto_48 : decode cX2_readInto 48 = .ok (.ireturn, 1) := by decide +kernel
theorem dX2_readItem_0 : decode cX2_readItem 0 = .ok (.aload_n 0, 1) := by decide +kernel
theorem dX2_readItem_1 : decode cX2_readItem 1 = .ok (.getfield 28, 3) := by decide +kernel
theorem dX2_readItem_4 : decode cX2_readItem 4 = .ok (.istore_n 2, 1) := by decide +kernel
theorem dX2_readItem_5 : decode cX2_readItem 5 = .ok (.aload_n 1, 1) := by decide +kernel
theorem dX2_readItem_6 : decode cX2_readItem 6 = .ok (.invokevirtual 35, 3) := by decide +kernel
theorem dX2_readItem_9 : decode cX2_readItem 9 = .ok (.ifCond .eq 5, 3) := by decide +kernel
theorem dX2_readItem_12 : decode cX2_readItem 12 = .ok (.iconst 0, 1) := by decide +kernel
theorem dX2_readItem_13 : decode cX2_readItem 13 = .ok (.ireturn, 1) := by decide +kernel
theorem dX2_readItem_14 : decode cX2_readItem 14 = .ok (.aload_n 0, 1) := by decide +kernel
theorem dX2_readItem_15 : decode cX2_readItem 15 = .ok (.invokevirtual 36, 3) := by decide +kernel
theorem dX2_readItem_18 : decode cX2_readItem 18 = .ok (.lstore_n 3, 1) := by decide +kernel
theorem dX2_readItem_19 : decode cX2_readItem 19 = .ok (.lload_n 3, 1) := by decide +kernel
theorem dX2_readItem_20 : decode cX2_readItem 20 = .ok (.lconst 0, 1) := by decide +kernel
theorem dX2_readItem_21 : decode cX2_readItem 21 = .ok (.lcmp, 1) := by decide +kernel
theorem dX2_readItem_22 : decode cX2_readItem 22 = .ok (.ifCond .eq 12, 3) := by decide +kernel
theorem dX2_readItem_25 : decode cX2_readItem 25 = .ok (.aload_n 0, 1) := by decide +kernel
theorem dX2_readItem_26 : decode cX2_readItem 26 = .ok (.invokevirtual 42, 3) := by decide +kernel
theorem dX2_readItem_29 : decode cX2_readItem 29 = .ok (.bipush 44, 2) := by decide +kernel
theorem dX2_readItem_31 : decode cX2_readItem 31 = .ok (.if_icmp .eq 5, 3) := by decide +kernel
theorem dX2_readItem_34 : decode cX2_readItem 34 = .ok (.iconst 0, 1) := by decide +kernel
theorem dX2_readItem_35 : decode cX2_readItem 35 = .ok (.ireturn, 1) := by decide +kernel
theorem dX2_readItem_36 : decode cX2_readItem 36 = .ok (.aload_n 1, 1) := by decide +kernel
theorem dX2_readItem_37 : decode cX2_readItem 37 = .ok (.lload_n 3, 1) := by decide +kernel
theorem dX2_readItem_38 : decode cX2_readItem 38 = .ok (.invokevirtual 46, 3) := by decide +kernel
theorem dX2_readItem_41 : decode cX2_readItem 41 = .ok (.iconst (-1), 1) := by decide +kernel
theorem dX2_readItem_42 : decode cX2_readItem 42 = .ok (.if_icmp .eq 10, 3) := by decide +kernel
theorem dX2_readItem_45 : decode cX2_readItem 45 = .ok (.aload_n 0, 1) := by decide +kernel
theorem dX2_readItem_46 : decode cX2_readItem 46 = .ok (.iload_n 2, 1) := by decide +kernel
theorem dX2_readItem_47 : decode cX2_readItem 47 = .ok (.putfield 28, 3) := by decide +kernel
theorem dX2_readItem_50 : decode cX2_readItem 50 = .ok (.iconst 0, 1) := by decide +kernel
theorem dX2_readItem_51 : decode cX2_readItem 51 = .ok (.ireturn, 1) := by decide +kernel
theorem dX2_readItem_52 : decode cX2_readItem 52 = .ok (.aload_n 0, 1) := by decide +kernel
theorem dX2_readItem_53 : decode cX2_readItem 53 = .ok (.dup, 1) := by decide +kernel
theorem dX2_readItem_54 : decode cX2_readItem 54 = .ok (.getfield 28, 3) := by decide +kernel
theorem dX2_readItem_57 : decode cX2_readItem 57 = .ok (.iconst 1, 1) := by decide +kernel
theorem dX2_readItem_58 : decode cX2_readItem 58 = .ok (.iadd, 1) := by decide +kernel
theorem dX2_readItem_59 : decode cX2_readItem 59 = .ok (.putfield 28, 3) := by decide +kernel
theorem dX2_readItem_62 : decode cX2_readItem 62 = .ok (.aload_n 0, 1) := by decide +kernel
theorem dX2_readItem_63 : decode cX2_readItem 63 = .ok (.invokevirtual 50, 3) := by decide +kernel
theorem dX2_readItem_66 : decode cX2_readItem 66 = .ok (.istore 5, 2) := by decide +kernel
theorem dX2_readItem_68 : decode cX2_readItem 68 = .ok (.iload 5, 2) := by decide +kernel
theorem dX2_readItem_70 : decode cX2_readItem 70 = .ok (.iconst (-1), 1) := by decide +kernel
theorem dX2_readItem_71 : decode cX2_readItem 71 = .ok (.if_icmp .eq 12, 3) := by decide +kernel
theorem dX2_readItem_74 : decode cX2_readItem 74 = .ok (.aload_n 0, 1) := by decide +kernel
theorem dX2_readItem_75 : decode cX2_readItem 75 = .ok (.invokevirtual 42, 3) := by decide +kernel
theorem dX2_readItem_78 : decode cX2_readItem 78 = .ok (.bipush 59, 2) := by decide +kernel
theorem dX2_readItem_80 : decode cX2_readItem 80 = .ok (.if_icmp .eq 5, 3) := by decide +kernel
theorem dX2_readItem_83 : decode cX2_readItem 83 = .ok (.iconst 0, 1) := by decide +kernel
theorem dX2_readItem_84 : decode cX2_readItem 84 = .ok (.ireturn, 1) := by decide +kernel
theorem dX2_readItem_85 : decode cX2_readItem 85 = .ok (.aload_n 0, 1) := by decide +kernel
theorem dX2_readItem_86 : decode cX2_readItem 86 = .ok (.dup, 1) := by decide +kernel
theorem dX2_readItem_87 : decode cX2_readItem 87 = .ok (.getfield 28, 3) := by decide +kernel
theorem dX2_readItem_90 : decode cX2_readItem 90 = .ok (.iconst 1, 1) := by decide +kernel
theorem dX2_readItem_91 : decode cX2_readItem 91 = .ok (.iadd, 1) := by decide +kernel
theorem dX2_readItem_92 : decode cX2_readItem 92 = .ok (.putfield 28, 3) := by decide +kernel
theorem dX2_readItem_95 : decode cX2_readItem 95 = .ok (.aload_n 1, 1) := by decide +kernel
theorem dX2_readItem_96 : decode cX2_readItem 96 = .ok (.lload_n 3, 1) := by decide +kernel
theorem dX2_readItem_97 : decode cX2_readItem 97 = .ok (.iload 5, 2) := by decide +kernel
theorem dX2_readItem_99 : decode cX2_readItem 99 = .ok (.iconst 0, 1) := by decide +kernel
theorem dX2_readItem_100 : decode cX2_readItem 100 = .ok (.iconst 0, 1) := by decide +kernel
theorem dX2_readItem_101 : decode cX2_readItem 101 = .ok (.invokevirtual 53, 3) := by decide +kernel
theorem dX2_readItem_104 : decode cX2_readItem 104 = .ok (.iconst 1, 1) := by decide +kernel
theorem dX2_readItem_105 : decode cX2_readItem 105 = .ok (.ireturn, 1) := by decide +kernel
theorem dX2_readWord_0 : decode cX2_readWord 0 = .ok (.lconst 0, 1) := by decide +kernel
theorem dX2_readWord_1 : decode cX2_readWord 1 = .ok (.lstore_n 1, 1) := by decide +kernel
theorem dX2_readWord_2 : decode cX2_readWord 2 = .ok (.iconst 0, 1) := by decide +kernel
theorem dX2_readWord_3 : decode cX2_readWord 3 = .ok (.istore_n 3, 1) := by decide +kernel
theorem dX2_readWord_4 : decode cX2_readWord 4 = .ok (.iload_n 3, 1) := by decide +kernel
theorem dX2_readWord_5 : decode cX2_readWord 5 = .ok (.bipush 10, 2) := by decide +kernel
theorem dX2_readWord_7 : decode cX2_readWord 7 = .ok (.if_icmp .ge 46, 3) := by decide +kernel
theorem dX2_readWord_10 : decode cX2_readWord 10 = .ok (.aload_n 0, 1) := by decide +kernel
theorem dX2_readWord_11 : decode cX2_readWord 11 = .ok (.bipush 97, 2) := by decide +kernel
theorem dX2_readWord_13 : decode cX2_readWord 13 = .ok (.bipush 122, 2) := by decide +kernel
theorem dX2_readWord_15 : decode cX2_readWord 15 = .ok (.invokevirtual 57, 3) := by decide +kernel
theorem dX2_readWord_18 : decode cX2_readWord 18 = .ok (.ifCond .eq 35, 3) := by decide +kernel
theorem dX2_readWord_21 : decode cX2_readWord 21 = .ok (.lload_n 1, 1) := by decide +kernel
theorem dX2_readWord_22 : decode cX2_readWord 22 = .ok (.iload_n 3, 1) := by decide +kernel
theorem dX2_readWord_23 : decode cX2_readWord 23 = .ok (.aload_n 0, 1) := by decide +kernel
theorem dX2_readWord_24 : decode cX2_readWord 24 = .ok (.invokevirtual 42, 3) := by decide +kernel
theorem dX2_readWord_27 : decode cX2_readWord 27 = .ok (.bipush 97, 2) := by decide +kernel
theorem dX2_readWord_29 : decode cX2_readWord 29 = .ok (.isub, 1) := by decide +kernel
theorem dX2_readWord_30 : decode cX2_readWord 30 = .ok (.invokestatic 61, 3) := by decide +kernel
theorem dX2_readWord_33 : decode cX2_readWord 33 = .ok (.invokestatic 65, 3) := by decide +kernel
theorem dX2_readWord_36 : decode cX2_readWord 36 = .ok (.lstore_n 1, 1) := by decide +kernel
theorem dX2_readWord_37 : decode cX2_readWord 37 = .ok (.aload_n 0, 1) := by decide +kernel
theorem dX2_readWord_38 : decode cX2_readWord 38 = .ok (.dup, 1) := by decide +kernel
theorem dX2_readWord_39 : decode cX2_readWord 39 = .ok (.getfield 28, 3) := by decide +kernel
theorem dX2_readWord_42 : decode cX2_readWord 42 = .ok (.iconst 1, 1) := by decide +kernel
theorem dX2_readWord_43 : decode cX2_readWord 43 = .ok (.iadd, 1) := by decide +kernel
theorem dX2_readWord_44 : decode cX2_readWord 44 = .ok (.putfield 28, 3) := by decide +kernel
theorem dX2_readWord_47 : decode cX2_readWord 47 = .ok (.iinc 3 1, 3) := by decide +kernel
theorem dX2_readWord_50 : decode cX2_readWord 50 = .ok (.goto (-46), 3) := by decide +kernel
theorem dX2_readWord_53 : decode cX2_readWord 53 = .ok (.lload_n 1, 1) := by decide +kernel
theorem dX2_readWord_54 : decode cX2_readWord 54 = .ok (.lreturn, 1) := by decide +kernel
theorem dX2_readCount_0 : decode cX2_readCount 0 = .ok (.aload_n 0, 1) := by decide +kernel
theorem dX2_readCount_1 : decode cX2_readCount 1 = .ok (.bipush 48, 2) := by decide +kernel
theorem dX2_readCount_3 : decode cX2_readCount 3 = .ok (.bipush 57, 2) := by decide +kernel
theorem dX2_readCount_5 : decode cX2_readCount 5 = .ok (.invokevirtual 57, 3) := by decide +kernel
theorem dX2_readCount_8 : decode cX2_readCount 8 = .ok (.ifCond .ne 5, 3) := by decide +kernel
theorem dX2_readCount_11 : decode cX2_readCount 11 = .ok (.iconst (-1), 1) := by decide +kernel
theorem dX2_readCount_12 : decode cX2_readCount 12 = .ok (.ireturn, 1) := by decide +kernel
theorem dX2_readCount_13 : decode cX2_readCount 13 = .ok (.iconst 0, 1) := by decide +kernel
theorem dX2_readCount_14 : decode cX2_readCount 14 = .ok (.istore_n 1, 1) := by decide +kernel
theorem dX2_readCount_15 : decode cX2_readCount 15 = .ok (.iconst 0, 1) := by decide +kernel
theorem dX2_readCount_16 : decode cX2_readCount 16 = .ok (.istore_n 2, 1) := by decide +kernel
theorem dX2_readCount_17 : decode cX2_readCount 17 = .ok (.iload_n 2, 1) := by decide +kernel
theorem dX2_readCount_18 : decode cX2_readCount 18 = .ok (.iconst 3, 1) := by decide +kernel
theorem dX2_readCount_19 : decode cX2_readCount 19 = .ok (.if_icmp .ge 43, 3) := by decide +kernel
theorem dX2_readCount_22 : decode cX2_readCount 22 = .ok (.aload_n 0, 1) := by decide +kernel
theorem dX2_readCount_23 : decode cX2_readCount 23 = .ok (.bipush 48, 2) := by decide +kernel
theorem dX2_readCount_25 : decode cX2_readCount 25 = .ok (.bipush 57, 2) := by decide +kernel
theorem dX2_readCount_27 : decode cX2_readCount 27 = .ok (.invokevirtual 57, 3) := by decide +kernel
theorem dX2_readCount_30 : decode cX2_readCount 30 = .ok (.ifCond .eq 32, 3) := by decide +kernel
theorem dX2_readCount_33 : decode cX2_readCount 33 = .ok (.bipush 10, 2) := by decide +kernel
theorem dX2_readCount_35 : decode cX2_readCount 35 = .ok (.iload_n 1, 1) := by decide +kernel
theorem dX2_readCount_36 : decode cX2_readCount 36 = .ok (.imul, 1) := by decide +kernel
theorem dX2_readCount_37 : decode cX2_readCount 37 = .ok (.aload_n 0, 1) := by decide +kernel
theorem dX2_readCount_38 : decode cX2_readCount 38 = .ok (.invokevirtual 42, 3) := by decide +kernel
theorem dX2_readCount_41 : decode cX2_readCount 41 = .ok (.iadd, 1) := by decide +kernel
theorem dX2_readCount_42 : decode cX2_readCount 42 = .ok (.bipush 48, 2) := by decide +kernel
theorem dX2_readCount_44 : decode cX2_readCount 44 = .ok (.isub, 1) := by decide +kernel
theorem dX2_readCount_45 : decode cX2_readCount 45 = .ok (.istore_n 1, 1) := by decide +kernel
theorem dX2_readCount_46 : decode cX2_readCount 46 = .ok (.aload_n 0, 1) := by decide +kernel
theorem dX2_readCount_47 : decode cX2_readCount 47 = .ok (.dup, 1) := by decide +kernel
theorem dX2_readCount_48 : decode cX2_readCount 48 = .ok (.getfield 28, 3) := by decide +kernel
theorem dX2_readCount_51 : decode cX2_readCount 51 = .ok (.iconst 1, 1) := by decide +kernel
theorem dX2_readCount_52 : decode cX2_readCount 52 = .ok (.iadd, 1) := by decide +kernel
theorem dX2_readCount_53 : decode cX2_readCount 53 = .ok (.putfield 28, 3) := by decide +kernel
theorem dX2_readCount_56 : decode cX2_readCount 56 = .ok (.iinc 2 1, 3) := by decide +kernel
theorem dX2_readCount_59 : decode cX2_readCount 59 = .ok (.goto (-42), 3) := by decide +kernel
theorem dX2_readCount_62 : decode cX2_readCount 62 = .ok (.iload_n 1, 1) := by decide +kernel
theorem dX2_readCount_63 : decode cX2_readCount 63 = .ok (.ireturn, 1) := by decide +kernel
theorem dX2_isHere_0 : decode cX2_isHere 0 = .ok (.aload_n 0, 1) := by decide +kernel
theorem dX2_isHere_1 : decode cX2_isHere 1 = .ok (.invokevirtual 42, 3) := by decide +kernel
theorem dX2_isHere_4 : decode cX2_isHere 4 = .ok (.istore_n 3, 1) := by decide +kernel
theorem dX2_isHere_5 : decode cX2_isHere 5 = .ok (.iload_n 3, 1) := by decide +kernel
theorem dX2_isHere_6 : decode cX2_isHere 6 = .ok (.iload_n 1, 1) := by decide +kernel
theorem dX2_isHere_7 : decode cX2_isHere 7 = .ok (.if_icmp .lt 12, 3) := by decide +kernel
theorem dX2_isHere_10 : decode cX2_isHere 10 = .ok (.iload_n 3, 1) := by decide +kernel
theorem dX2_isHere_11 : decode cX2_isHere 11 = .ok (.iload_n 2, 1) := by decide +kernel
theorem dX2_isHere_12 : decode cX2_isHere 12 = .ok (.if_icmp .gt 7, 3) := by decide +kernel
theorem dX2_isHere_15 : decode cX2_isHere 15 = .ok (.iconst 1, 1) := by decide +kernel
theorem dX2_isHere_16 : decode cX2_isHere 16 = .ok (.goto 4, 3) := by decide +kernel
theorem dX2_isHere_19 : decode cX2_isHere 19 = .ok (.iconst 0, 1) := by decide +kernel
theorem dX2_isHere_20 : decode cX2_isHere 20 = .ok (.ireturn, 1) := by decide +kernel
theorem dX2_byteHere_0 : decode cX2_byteHere 0 = .ok (.aload_n 0, 1) := by decide +kernel
theorem dX2_byteHere_1 : decode cX2_byteHere 1 = .ok (.getfield 28, 3) := by decide +kernel
theorem dX2_byteHere_4 : decode cX2_byteHere 4 = .ok (.ifCond .lt 36, 3) := by decide +kernel
theorem dX2_byteHere_7 : decode cX2_byteHere 7 = .ok (.aload_n 0, 1) := by decide +kernel
theorem dX2_byteHere_8 : decode cX2_byteHere 8 = .ok (.getfield 28, 3) := by decide +kernel
theorem dX2_byteHere_11 : decode cX2_byteHere 11 = .ok (.aload_n 0, 1) := by decide +kernel
theorem dX2_byteHere_12 : decode cX2_byteHere 12 = .ok (.getfield 15, 3) := by decide +kernel
theorem dX2_byteHere_15 : decode cX2_byteHere 15 = .ok (.if_icmp .ge 25, 3) := by decide +kernel
theorem dX2_byteHere_18 : decode cX2_byteHere 18 = .ok (.aload_n 0, 1) := by decide +kernel
theorem dX2_byteHere_19 : decode cX2_byteHere 19 = .ok (.getfield 28, 3) := by decide +kernel
theorem dX2_byteHere_22 : decode cX2_byteHere 22 = .ok (.sipush 150, 3) := by decide +kernel
theorem dX2_byteHere_25 : decode cX2_byteHere 25 = .ok (.if_icmp .ge 15, 3) := by decide +kernel
theorem dX2_byteHere_28 : decode cX2_byteHere 28 = .ok (.aload_n 0, 1) := by decide +kernel
theorem dX2_byteHere_29 : decode cX2_byteHere 29 = .ok (.getfield 9, 3) := by decide +kernel
theorem dX2_byteHere_32 : decode cX2_byteHere 32 = .ok (.aload_n 0, 1) := by decide +kernel
theorem dX2_byteHere_33 : decode cX2_byteHere 33 = .ok (.getfield 28, 3) := by decide +kernel
theorem dX2_byteHere_36 : decode cX2_byteHere 36 = .ok (.iaload, 1) := by decide +kernel
theorem dX2_byteHere_37 : decode cX2_byteHere 37 = .ok (.goto 4, 3) := by decide +kernel
theorem dX2_byteHere_40 : decode cX2_byteHere 40 = .ok (.iconst (-1), 1) := by decide +kernel
theorem dX2_byteHere_41 : decode cX2_byteHere 41 = .ok (.ireturn, 1) := by decide +kernel
theorem dX3_init_0 : decode cX3_init 0 = .ok (.aload_n 0, 1) := by decide +kernel
theorem dX3_init_1 : decode cX3_init 1 = .ok (.invokespecial 3, 3) := by decide +kernel
theorem dX3_init_4 : decode cX3_init 4 = .ok (.aload_n 0, 1) := by decide +kernel
theorem dX3_init_5 : decode cX3_init 5 = .ok (.iconst 4, 1) := by decide +kernel
theorem dX3_init_6 : decode cX3_init 6 = .ok (.anewarray 9, 3) := by decide +kernel
theorem dX3_init_9 : decode cX3_init 9 = .ok (.putfield 11, 3) := by decide +kernel
theorem dX3_init_12 : decode cX3_init 12 = .ok (.iconst 0, 1) := by decide +kernel
theorem dX3_init_13 : decode cX3_init 13 = .ok (.istore_n 1, 1) := by decide +kernel
theorem dX3_init_14 : decode cX3_init 14 = .ok (.iload_n 1, 1) := by decide +kernel
theorem dX3_init_15 : decode cX3_init 15 = .ok (.iconst 4, 1) := by decide +kernel
theorem dX3_init_16 : decode cX3_init 16 = .ok (.if_icmp .ge 22, 3) := by decide +kernel
theorem dX3_init_19 : decode cX3_init 19 = .ok (.aload_n 0, 1) := by decide +kernel
theorem dX3_init_20 : decode cX3_init 20 = .ok (.getfield 11, 3) := by decide +kernel
theorem dX3_init_23 : decode cX3_init 23 = .ok (.iload_n 1, 1) := by decide +kernel
theorem dX3_init_24 : decode cX3_init 24 = .ok (.new 9, 3) := by decide +kernel
theorem dX3_init_27 : decode cX3_init 27 = .ok (.dup, 1) := by decide +kernel
theorem dX3_init_28 : decode cX3_init 28 = .ok (.invokespecial 17, 3) := by decide +kernel
theorem dX3_init_31 : decode cX3_init 31 = .ok (.aastore, 1) := by decide +kernel
theorem dX3_init_32 : decode cX3_init 32 = .ok (.iinc 1 1, 3) := by decide +kernel
theorem dX3_init_35 : decode cX3_init 35 = .ok (.goto (-21), 3) := by decide +kernel
theorem dX3_init_38 : decode cX3_init 38 = .ok (.return_, 1) := by decide +kernel
theorem dX3_push_0 : decode cX3_push 0 = .ok (.aload_n 0, 1) := by decide +kernel
theorem dX3_push_1 : decode cX3_push 1 = .ok (.getfield 18, 3) := by decide +kernel
theorem dX3_push_4 : decode cX3_push 4 = .ok (.iconst 4, 1) := by decide +kernel
theorem dX3_push_5 : decode cX3_push 5 = .ok (.if_icmp .lt 7, 3) := by decide +kernel
theorem dX3_push_8 : decode cX3_push 8 = .ok (.aload_n 0, 1) := by decide +kernel
theorem dX3_push_9 : decode cX3_push 9 = .ok (.invokevirtual 22, 3) := by decide +kernel
theorem dX3_push_12 : decode cX3_push 12 = .ok (.aload_n 0, 1) := by decide +kernel
theorem dX3_push_13 : decode cX3_push 13 = .ok (.aload_n 0, 1) := by decide +kernel
theorem dX3_push_14 : decode cX3_push 14 = .ok (.getfield 18, 3) := by decide +kernel
theorem dX3_push_17 : decode cX3_push 17 = .ok (.invokevirtual 25, 3) := by decide +kernel
theorem dX3_push_20 : decode cX3_push 20 = .ok (.astore_n 2, 1) := by decide +kernel
theorem dX3_push_21 : decode cX3_push 21 = .ok (.aload_n 2, 1) := by decide +kernel
theorem dX3_push_22 : decode cX3_push 22 = .ok (.ifnull 18, 3) := by decide +kernel
theorem dX3_push_25 : decode cX3_push 25 = .ok (.aload_n 2, 1) := by decide +kernel
theorem dX3_push_26 : decode cX3_push 26 = .ok (.aload_n 1, 1) := by decide +kernel
theorem dX3_push_27 : decode cX3_push 27 = .ok (.invokevirtual 29, 3) := by decide +kernel
theorem dX3_push_30 : decode cX3_push 30 = .ok (.aload_n 0, 1) := by decide +kernel
theorem dX3_push_31 : decode cX3_push 31 = .ok (.dup, 1) := by decide +kernel
theorem dX3_push_32 : decode cX3_push 32 = .ok (.getfield 18, 3) := by decide +kernel
theorem dX3_push_35 : decode cX3_push 35 = .ok (.iconst 1, 1) := by decide +kernel
theorem dX3_push_36 : decode cX3_push 36 = .ok (.iadd, 1) := by decide +kernel
theorem dX3_push_37 : decode cX3_push 37 = .ok (.putfield 18, 3) := by decide +kernel
theorem dX3_push_40 : decode cX3_push 40 = .ok (.return_, 1) := by decide +kernel
theorem dX3_popInto_0 : decode cX3_popInto 0 = .ok (.aload_n 0, 1) := by decide +kernel
theorem dX3_popInto_1 : decode cX3_popInto 1 = .ok (.aload_n 0, 1) := by decide +kernel
theorem dX3_popInto_2 : decode cX3_popInto 2 = .ok (.getfield 18, 3) := by decide +kernel
theorem dX3_popInto_5 : decode cX3_popInto 5 = .ok (.iconst 1, 1) := by decide +kernel
theorem dX3_popInto_6 : decode cX3_popInto 6 = .ok (.isub, 1) := by decide +kernel
theorem dX3_popInto_7 : decode cX3_popInto 7 = .ok (.invokevirtual 25, 3) := by decide +kernel
theorem dX3_popInto_10 : decode cX3_popInto 10 = .ok (.astore_n 2, 1) := by decide +kernel
theorem dX3_popInto_11 : decode cX3_popInto 11 = .ok (.aload_n 2, 1) := by decide +kernel
theorem dX3_popInto_12 : decode cX3_popInto 12 = .ok (.ifnull 18, 3) := by decide +kernel
theorem dX3_popInto_15 : decode cX3_popInto 15 = .ok (.aload_n 1, 1) := by decide +kernel
theorem dX3_popInto_16 : decode cX3_popInto 16 = .ok (.aload_n 2, 1) := by decide +kernel
theorem dX3_popInto_17 : decode cX3_popInto 17 = .ok (.invokevirtual 29, 3) := by decide +kernel
theorem dX3_popInto_20 : decode cX3_popInto 20 = .ok (.aload_n 0, 1) := by decide +kernel
theorem dX3_popInto_21 : decode cX3_popInto 21 = .ok (.dup, 1) := by decide +kernel
theorem dX3_popInto_22 : decode cX3_popInto 22 = .ok (.getfield 18, 3) := by decide +kernel
theorem dX3_popInto_25 : decode cX3_popInto 25 = .ok (.iconst 1, 1) := by decide +kernel
theorem dX3_popInto_26 : decode cX3_popInto 26 = .ok (.isub, 1) := by decide +kernel
theorem dX3_popInto_27 : decode cX3_popInto 27 = .ok (.putfield 18, 3) := by decide +kernel
theorem dX3_popInto_30 : decode cX3_popInto 30 = .ok (.return_, 1) := by decide +kernel
theorem dX3_stateAt_0 : decode cX3_stateAt 0 = .ok (.iload_n 1, 1) := by decide +kernel
theorem dX3_stateAt_1 : decode cX3_stateAt 1 = .ok (.ifCond .lt 17, 3) := by decide +kernel
theorem dX3_stateAt_4 : decode cX3_stateAt 4 = .ok (.iload_n 1, 1) := by decide +kernel
theorem dX3_stateAt_5 : decode cX3_stateAt 5 = .ok (.iconst 4, 1) := by decide +kernel
theorem dX3_stateAt_6 : decode cX3_stateAt 6 = .ok (.if_icmp .ge 12, 3) := by decide +kernel
theorem dX3_stateAt_9 : decode cX3_stateAt 9 = .ok (.aload_n 0, 1) := by decide +kernel
theorem dX3_stateAt_10 : decode cX3_stateAt 10 = .ok (.getfield 11, 3) := by decide +kernel
theorem dX3_stateAt_13 : decode cX3_stateAt 13 = .ok (.iload_n 1, 1) := by decide +kernel
theorem dX3_stateAt_14 : decode cX3_stateAt 14 = .ok (.aaload, 1) := by decide +kernel
theorem dX3_stateAt_15 : decode cX3_stateAt 15 = .ok (.goto 4, 3) := by decide +kernel
theorem dX3_stateAt_18 : decode cX3_stateAt 18 = .ok (.aconst_null, 1) := by decide +kernel
theorem dX3_stateAt_19 : decode cX3_stateAt 19 = .ok (.areturn, 1) := by decide +kernel
theorem dX3_dropOldest_0 : decode cX3_dropOldest 0 = .ok (.aload_n 0, 1) := by decide +kernel
theorem dX3_dropOldest_1 : decode cX3_dropOldest 1 = .ok (.getfield 11, 3) := by decide +kernel
theorem dX3_dropOldest_4 : decode cX3_dropOldest 4 = .ok (.iconst 0, 1) := by decide +kernel
theorem dX3_dropOldest_5 : decode cX3_dropOldest 5 = .ok (.aaload, 1) := by decide +kernel
theorem dX3_dropOldest_6 : decode cX3_dropOldest 6 = .ok (.astore_n 1, 1) := by decide +kernel
theorem dX3_dropOldest_7 : decode cX3_dropOldest 7 = .ok (.iconst 1, 1) := by decide +kernel
theorem dX3_dropOldest_8 : decode cX3_dropOldest 8 = .ok (.istore_n 2, 1) := by decide +kernel
theorem dX3_dropOldest_9 : decode cX3_dropOldest 9 = .ok (.iload_n 2, 1) := by decide +kernel
theorem dX3_dropOldest_10 : decode cX3_dropOldest 10 = .ok (.iconst 4, 1) := by decide +kernel
theorem dX3_dropOldest_11 : decode cX3_dropOldest 11 = .ok (.if_icmp .ge 23, 3) := by decide +kernel
theorem dX3_dropOldest_14 : decode cX3_dropOldest 14 = .ok (.aload_n 0, 1) := by decide +kernel
theorem dX3_dropOldest_15 : decode cX3_dropOldest 15 = .ok (.getfield 11, 3) := by decide +kernel
theorem dX3_dropOldest_18 : decode cX3_dropOldest 18 = .ok (.iload_n 2, 1) := by decide +kernel
theorem dX3_dropOldest_19 : decode cX3_dropOldest 19 = .ok (.iconst 1, 1) := by decide +kernel
theorem dX3_dropOldest_20 : decode cX3_dropOldest 20 = .ok (.isub, 1) := by decide +kernel
theorem dX3_dropOldest_21 : decode cX3_dropOldest 21 = .ok (.aload_n 0, 1) := by decide +kernel
theorem dX3_dropOldest_22 : decode cX3_dropOldest 22 = .ok (.getfield 11, 3) := by decide +kernel
theorem dX3_dropOldest_25 : decode cX3_dropOldest 25 = .ok (.iload_n 2, 1) := by decide +kernel
theorem dX3_dropOldest_26 : decode cX3_dropOldest 26 = .ok (.aaload, 1) := by decide +kernel
theorem dX3_dropOldest_27 : decode cX3_dropOldest 27 = .ok (.aastore, 1) := by decide +kernel
theorem dX3_dropOldest_28 : decode cX3_dropOldest 28 = .ok (.iinc 2 1, 3) := by decide +kernel
theorem dX3_dropOldest_31 : decode cX3_dropOldest 31 = .ok (.goto (-22), 3) := by decide +kernel
theorem dX3_dropOldest_34 : decode cX3_dropOldest 34 = .ok (.aload_n 0, 1) := by decide +kernel
theorem dX3_dropOldest_35 : decode cX3_dropOldest 35 = .ok (.getfield 11, 3) := by decide +kernel
theorem dX3_dropOldest_38 : decode cX3_dropOldest 38 = .ok (.iconst 3, 1) := by decide +kernel
theorem dX3_dropOldest_39 : decode cX3_dropOldest 39 = .ok (.aload_n 1, 1) := by decide +kernel
theorem dX3_dropOldest_40 : decode cX3_dropOldest 40 = .ok (.aastore, 1) := by decide +kernel
theorem dX3_dropOldest_41 : decode cX3_dropOldest 41 = .ok (.aload_n 0, 1) := by decide +kernel
theorem dX3_dropOldest_42 : decode cX3_dropOldest 42 = .ok (.dup, 1) := by decide +kernel
theorem dX3_dropOldest_43 : decode cX3_dropOldest 43 = .ok (.getfield 18, 3) := by decide +kernel
theorem dX3_dropOldest_46 : decode cX3_dropOldest 46 = .ok (.iconst 1, 1) := by decide +kernel
theorem dX3_dropOldest_47 : decode cX3_dropOldest 47 = .ok (.isub, 1) := by decide +kernel
theorem dX3_dropOldest_48 : decode cX3_dropOldest 48 = .ok (.putfield 18, 3) := by decide +kernel
theorem dX3_dropOldest_51 : decode cX3_dropOldest 51 = .ok (.return_, 1) := by decide +kernel
theorem dX4_codeOfLetter_0 : decode cX4_codeOfLetter 0 = .ok (.iload_n 0, 1) := by decide +kernel
theorem dX4_codeOfLetter_1 : decode cX4_codeOfLetter 1 = .ok (.iconst 1, 1) := by decide +kernel
theorem dX4_codeOfLetter_2 : decode cX4_codeOfLetter 2 = .ok (.iadd, 1) := by decide +kernel
theorem dX4_codeOfLetter_3 : decode cX4_codeOfLetter 3 = .ok (.ireturn, 1) := by decide +kernel
theorem dX4_codeOfKey_0 : decode cX4_codeOfKey 0 = .ok (.bipush 30, 2) := by decide +kernel
theorem dX4_codeOfKey_2 : decode cX4_codeOfKey 2 = .ok (.iload_n 0, 1) := by decide +kernel
theorem dX4_codeOfKey_3 : decode cX4_codeOfKey 3 = .ok (.iadd, 1) := by decide +kernel
theorem dX4_codeOfKey_4 : decode cX4_codeOfKey 4 = .ok (.ireturn, 1) := by decide +kernel
theorem dX4_isLetter_0 : decode cX4_isLetter 0 = .ok (.iload_n 0, 1) := by decide +kernel
theorem dX4_isLetter_1 : decode cX4_isLetter 1 = .ok (.iconst 1, 1) := by decide +kernel
theorem dX4_isLetter_2 : decode cX4_isLetter 2 = .ok (.if_icmp .lt 13, 3) := by decide +kernel
theorem dX4_isLetter_5 : decode cX4_isLetter 5 = .ok (.iload_n 0, 1) := by decide +kernel
theorem dX4_isLetter_6 : decode cX4_isLetter 6 = .ok (.bipush 26, 2) := by decide +kernel
theorem dX4_isLetter_8 : decode cX4_isLetter 8 = .ok (.if_icmp .gt 7, 3) := by decide +kernel
theorem dX4_isLetter_11 : decode cX4_isLetter 11 = .ok (.iconst 1, 1) := by decide +kernel
theorem dX4_isLetter_12 : decode cX4_isLetter 12 = .ok (.goto 4, 3) := by decide +kernel
theorem dX4_isLetter_15 : decode cX4_isLetter 15 = .ok (.iconst 0, 1) := by decide +kernel
theorem dX4_isLetter_16 : decode cX4_isLetter 16 = .ok (.ireturn, 1) := by decide +kernel
theorem dX4_letterOf_0 : decode cX4_letterOf 0 = .ok (.iload_n 0, 1) := by decide +kernel
theorem dX4_letterOf_1 : decode cX4_letterOf 1 = .ok (.iconst 1, 1) := by decide +kernel
theorem dX4_letterOf_2 : decode cX4_letterOf 2 = .ok (.isub, 1) := by decide +kernel
theorem dX4_letterOf_3 : decode cX4_letterOf 3 = .ok (.ireturn, 1) := by decide +kernel
theorem dX4_keyOf_0 : decode cX4_keyOf 0 = .ok (.iload_n 0, 1) := by decide +kernel
theorem dX4_keyOf_1 : decode cX4_keyOf 1 = .ok (.bipush 30, 2) := by decide +kernel
theorem dX4_keyOf_3 : decode cX4_keyOf 3 = .ok (.isub, 1) := by decide +kernel
theorem dX4_keyOf_4 : decode cX4_keyOf 4 = .ok (.ireturn, 1) := by decide +kernel
theorem dX4_codeAt_0 : decode cX4_codeAt 0 = .ok (.iload_n 2, 1) := by decide +kernel
theorem dX4_codeAt_1 : decode cX4_codeAt 1 = .ok (.ifCond .lt 26, 3) := by decide +kernel
theorem dX4_codeAt_4 : decode cX4_codeAt 4 = .ok (.iload_n 2, 1) := by decide +kernel
theorem dX4_codeAt_5 : decode cX4_codeAt 5 = .ok (.bipush 10, 2) := by decide +kernel
theorem dX4_codeAt_7 : decode cX4_codeAt 7 = .ok (.if_icmp .ge 20, 3) := by decide +kernel
theorem dX4_codeAt_10 : decode cX4_codeAt 10 = .ok (.lload_n 0, 1) := by decide +kernel
theorem dX4_codeAt_11 : decode cX4_codeAt 11 = .ok (.bipush 54, 2) := by decide +kernel
theorem dX4_codeAt_13 : decode cX4_codeAt 13 = .ok (.bipush 6, 2) := by decide +kernel
theorem dX4_codeAt_15 : decode cX4_codeAt 15 = .ok (.iload_n 2, 1) := by decide +kernel
theorem dX4_codeAt_16 : decode cX4_codeAt 16 = .ok (.imul, 1) := by decide +kernel
theorem dX4_codeAt_17 : decode cX4_codeAt 17 = .ok (.isub, 1) := by decide +kernel
theorem dX4_codeAt_18 : decode cX4_codeAt 18 = .ok (.lushr, 1) := by decide +kernel
theorem dX4_codeAt_19 : decode cX4_codeAt 19 = .ok (.ldc2_w 11, 3) := by decide +kernel
theorem dX4_codeAt_22 : decode cX4_codeAt 22 = .ok (.land, 1) := by decide +kernel
theorem dX4_codeAt_23 : decode cX4_codeAt 23 = .ok (.l2i, 1) := by decide +kernel
theorem dX4_codeAt_24 : decode cX4_codeAt 24 = .ok (.goto 4, 3) := by decide +kernel
theorem dX4_codeAt_27 : decode cX4_codeAt 27 = .ok (.iconst 0, 1) := by decide +kernel
theorem dX4_codeAt_28 : decode cX4_codeAt 28 = .ok (.ireturn, 1) := by decide +kernel
theorem dX4_letterAt_0 : decode cX4_letterAt 0 = .ok (.lload_n 0, 1) := by decide +kernel
theorem dX4_letterAt_1 : decode cX4_letterAt 1 = .ok (.iload_n 2, 1) := by decide +kernel
theorem dX4_letterAt_2 : decode cX4_letterAt 2 = .ok (.invokestatic 13, 3) := by decide +kernel
theorem dX4_letterAt_5 : decode cX4_letterAt 5 = .ok (.invokestatic 17, 3) := by decide +kernel
theorem dX4_letterAt_8 : decode cX4_letterAt 8 = .ok (.ireturn, 1) := by decide +kernel
theorem dX4_has_0 : decode cX4_has 0 = .ok (.lload_n 0, 1) := by decide +kernel
theorem dX4_has_1 : decode cX4_has 1 = .ok (.iload_n 2, 1) := by decide +kernel
theorem dX4_has_2 : decode cX4_has 2 = .ok (.invokestatic 13, 3) := by decide +kernel
theorem dX4_has_5 : decode cX4_has 5 = .ok (.ifCond .eq 7, 3) := by decide +kernel
theorem dX4_has_8 : decode cX4_has 8 = .ok (.iconst 1, 1) := by decide +kernel
theorem dX4_has_9 : decode cX4_has 9 = .ok (.goto 4, 3) := by decide +kernel
theorem dX4_has_12 : decode cX4_has 12 = .ok (.iconst 0, 1) := by decide +kernel
theorem dX4_has_13 : decode cX4_has 13 = .ok (.ireturn, 1) := by decide +kernel
theorem dX4_lengthOf_0 : decode cX4_lengthOf 0 = .ok (.iconst 0, 1) := by decide +kernel
theorem dX4_lengthOf_1 : decode cX4_lengthOf 1 = .ok (.istore_n 2, 1) := by decide +kernel
theorem dX4_lengthOf_2 : decode cX4_lengthOf 2 = .ok (.iload_n 2, 1) := by decide +kernel
theorem dX4_lengthOf_3 : decode cX4_lengthOf 3 = .ok (.bipush 10, 2) := by decide +kernel
theorem dX4_lengthOf_5 : decode cX4_lengthOf 5 = .ok (.if_icmp .ge 17, 3) := by decide +kernel
theorem dX4_lengthOf_8 : decode cX4_lengthOf 8 = .ok (.lload_n 0, 1) := by decide +kernel
theorem dX4_lengthOf_9 : decode cX4_lengthOf 9 = .ok (.iload_n 2, 1) := by decide +kernel
theorem dX4_lengthOf_10 : decode cX4_lengthOf 10 = .ok (.invokestatic 13, 3) := by decide +kernel
theorem dX4_lengthOf_13 : decode cX4_lengthOf 13 = .ok (.ifCond .eq 9, 3) := by decide +kernel
theorem dX4_lengthOf_16 : decode cX4_lengthOf 16 = .ok (.iinc 2 1, 3) := by decide +kernel
theorem dX4_lengthOf_19 : decode cX4_lengthOf 19 = .ok (.goto (-17), 3) := by decide +kernel
theorem dX4_lengthOf_22 : decode cX4_lengthOf 22 = .ok (.iload_n 2, 1) := by decide +kernel
theorem dX4_lengthOf_23 : decode cX4_lengthOf 23 = .ok (.ireturn, 1) := by decide +kernel
theorem dX4_with_0 : decode cX4_with 0 = .ok (.iload_n 2, 1) := by decide +kernel
theorem dX4_with_1 : decode cX4_with 1 = .ok (.ifCond .lt 9, 3) := by decide +kernel
theorem dX4_with_4 : decode cX4_with 4 = .ok (.iload_n 2, 1) := by decide +kernel
theorem dX4_with_5 : decode cX4_with 5 = .ok (.bipush 10, 2) := by decide +kernel
theorem dX4_with_7 : decode cX4_with 7 = .ok (.if_icmp .lt 5, 3) := by decide +kernel
theorem dX4_with_10 : decode cX4_with 10 = .ok (.lload_n 0, 1) := by decide +kernel
theorem dX4_with_11 : decode cX4_with 11 = .ok (.lreturn, 1) := by decide +kernel
theorem dX4_with_12 : decode cX4_with 12 = .ok (.bipush 54, 2) := by decide +kernel
theorem dX4_with_14 : decode cX4_with 14 = .ok (.bipush 6, 2) := by decide +kernel
theorem dX4_with_16 : decode cX4_with 16 = .ok (.iload_n 2, 1) := by decide +kernel
theorem dX4_with_17 : decode cX4_with 17 = .ok (.imul, 1) := by decide +kernel
theorem dX4_with_18 : decode cX4_with 18 = .ok (.isub, 1) := by decide +kernel
theorem dX4_with_19 : decode cX4_with 19 = .ok (.istore 4, 2) := by decide +kernel
theorem dX4_with_21 : decode cX4_with 21 = .ok (.lload_n 0, 1) := by decide +kernel
theorem dX4_with_22 : decode cX4_with 22 = .ok (.ldc2_w 11, 3) := by decide +kernel
theorem dX4_with_25 : decode cX4_with 25 = .ok (.iload 4, 2) := by decide +kernel
theorem dX4_with_27 : decode cX4_with 27 = .ok (.lshl, 1) := by decide +kernel
theorem dX4_with_28 : decode cX4_with 28 = .ok (.ldc2_w 21, 3) := by decide +kernel
theorem dX4_with_31 : decode cX4_with 31 = .ok (.lxor, 1) := by decide +kernel
theorem dX4_with_32 : decode cX4_with 32 = .ok (.land, 1) := by decide +kernel
theorem dX4_with_33 : decode cX4_with 33 = .ok (.iload_n 3, 1) := by decide +kernel
theorem dX4_with_34 : decode cX4_with 34 = .ok (.i2l, 1) := by decide +kernel
theorem dX4_with_35 : decode cX4_with 35 = .ok (.iload 4, 2) := by decide +kernel
theorem dX4_with_37 : decode cX4_with 37 = .ok (.lshl, 1) := by decide +kernel
theorem dX4_with_38 : decode cX4_with 38 = .ok (.lor, 1) := by decide +kernel
theorem dX4_with_39 : decode cX4_with 39 = .ok (.lreturn, 1) := by decide +kernel
theorem dX4_firstOf_0 : decode cX4_firstOf 0 = .ok (.lconst 0, 1) := by decide +kernel
theorem dX4_firstOf_1 : decode cX4_firstOf 1 = .ok (.lstore_n 3, 1) := by decide +kernel
theorem dX4_firstOf_2 : decode cX4_firstOf 2 = .ok (.iconst 0, 1) := by decide +kernel
theorem dX4_firstOf_3 : decode cX4_firstOf 3 = .ok (.istore 5, 2) := by decide +kernel
theorem dX4_firstOf_5 : decode cX4_firstOf 5 = .ok (.iload 5, 2) := by decide +kernel
theorem dX4_firstOf_7 : decode cX4_firstOf 7 = .ok (.iload_n 2, 1) := by decide +kernel
theorem dX4_firstOf_8 : decode cX4_firstOf 8 = .ok (.if_icmp .ge 29, 3) := by decide +kernel
theorem dX4_firstOf_11 : decode cX4_firstOf 11 = .ok (.iload 5, 2) := by decide +kernel
theorem dX4_firstOf_13 : decode cX4_firstOf 13 = .ok (.bipush 10, 2) := by decide +kernel
theorem dX4_firstOf_15 : decode cX4_firstOf 15 = .ok (.if_icmp .ge 22, 3) := by decide +kernel
theorem dX4_firstOf_18 : decode cX4_firstOf 18 = .ok (.lload_n 3, 1) := by decide +kernel
theorem dX4_firstOf_19 : decode cX4_firstOf 19 = .ok (.iload 5, 2) := by decide +kernel
theorem dX4_firstOf_21 : decode cX4_firstOf 21 = .ok (.lload_n 0, 1) := by decide +kernel
theorem dX4_firstOf_22 : decode cX4_firstOf 22 = .ok (.iload 5, 2) := by decide +kernel
theorem dX4_firstOf_24 : decode cX4_firstOf 24 = .ok (.invokestatic 13, 3) := by decide +kernel
theorem dX4_firstOf_27 : decode cX4_firstOf 27 = .ok (.invokestatic 23, 3) := by decide +kernel
theorem dX4_firstOf_30 : decode cX4_firstOf 30 = .ok (.lstore_n 3, 1) := by decide +kernel
theorem dX4_firstOf_31 : decode cX4_firstOf 31 = .ok (.iinc 5 1, 3) := by decide +kernel
theorem dX4_firstOf_34 : decode cX4_firstOf 34 = .ok (.goto (-29), 3) := by decide +kernel
theorem dX4_firstOf_37 : decode cX4_firstOf 37 = .ok (.lload_n 3, 1) := by decide +kernel
theorem dX4_firstOf_38 : decode cX4_firstOf 38 = .ok (.lreturn, 1) := by decide +kernel
theorem dX4_keysOf_0 : decode cX4_keysOf 0 = .ok (.lconst 0, 1) := by decide +kernel
theorem dX4_keysOf_1 : decode cX4_keysOf 1 = .ok (.lstore_n 2, 1) := by decide +kernel
theorem dX4_keysOf_2 : decode cX4_keysOf 2 = .ok (.lload_n 0, 1) := by decide +kernel
theorem dX4_keysOf_3 : decode cX4_keysOf 3 = .ok (.invokestatic 27, 3) := by decide +kernel
theorem dX4_keysOf_6 : decode cX4_keysOf 6 = .ok (.istore 4, 2) := by decide +kernel
theorem dX4_keysOf_8 : decode cX4_keysOf 8 = .ok (.iconst 0, 1) := by decide +kernel
theorem dX4_keysOf_9 : decode cX4_keysOf 9 = .ok (.istore 5, 2) := by decide +kernel
theorem dX4_keysOf_11 : decode cX4_keysOf 11 = .ok (.iload 5, 2) := by decide +kernel
theorem dX4_keysOf_13 : decode cX4_keysOf 13 = .ok (.iload 4, 2) := by decide +kernel
theorem dX4_keysOf_15 : decode cX4_keysOf 15 = .ok (.if_icmp .ge 28, 3) := by decide +kernel
theorem dX4_keysOf_18 : decode cX4_keysOf 18 = .ok (.lload_n 2, 1) := by decide +kernel
theorem dX4_keysOf_19 : decode cX4_keysOf 19 = .ok (.iload 5, 2) := by decide +kernel
theorem dX4_keysOf_21 : decode cX4_keysOf 21 = .ok (.lload_n 0, 1) := by decide +kernel
theorem dX4_keysOf_22 : decode cX4_keysOf 22 = .ok (.iload 5, 2) := by decide +kernel
theorem dX4_keysOf_24 : decode cX4_keysOf 24 = .ok (.invokestatic 31, 3) := by decide +kernel
theorem dX4_keysOf_27 : decode cX4_keysOf 27 = .ok (.invokestatic 34, 3) := by decide +kernel
theorem dX4_keysOf_30 : decode cX4_keysOf 30 = .ok (.invokestatic 39, 3) := by decide +kernel
theorem dX4_keysOf_33 : decode cX4_keysOf 33 = .ok (.invokestatic 23, 3) := by decide +kernel
theorem dX4_keysOf_36 : decode cX4_keysOf 36 = .ok (.lstore_n 2, 1) := by decide +kernel
theorem dX4_keysOf_37 : decode cX4_keysOf 37 = .ok (.iinc 5 1, 3) := by decide +kernel
theorem dX4_keysOf_40 : decode cX4_keysOf 40 = .ok (.goto (-29), 3) := by decide +kernel
theorem dX4_keysOf_43 : decode cX4_keysOf 43 = .ok (.lload_n 2, 1) := by decide +kernel
theorem dX4_keysOf_44 : decode cX4_keysOf 44 = .ok (.lreturn, 1) := by decide +kernel
theorem dX4_firstLetters_0 : decode cX4_firstLetters 0 = .ok (.lconst 0, 1) := by decide +kernel
theorem dX4_firstLetters_1 : decode cX4_firstLetters 1 = .ok (.lstore_n 2, 1) := by decide +kernel
theorem dX4_firstLetters_2 : decode cX4_firstLetters 2 = .ok (.lload_n 0, 1) := by decide +kernel
theorem dX4_firstLetters_3 : decode cX4_firstLetters 3 = .ok (.invokestatic 27, 3) := by decide +kernel
theorem dX4_firstLetters_6 : decode cX4_firstLetters 6 = .ok (.istore 4, 2) := by decide +kernel
theorem dX4_firstLetters_8 : decode cX4_firstLetters 8 = .ok (.iconst 0, 1) := by decide +kernel
theorem dX4_firstLetters_9 : decode cX4_firstLetters 9 = .ok (.istore 5, 2) := by decide +kernel
theorem dX4_firstLetters_11 : decode cX4_firstLetters 11 = .ok (.iload 5, 2) := by decide +kernel
theorem dX4_firstLetters_13 : decode cX4_firstLetters 13 = .ok (.iload 4, 2) := by decide +kernel
theorem dX4_firstLetters_15 : decode cX4_firstLetters 15 = .ok (.if_icmp .ge 52, 3) := by decide +kernel
theorem dX4_firstLetters_18 : decode cX4_firstLetters 18 = .ok (.lload_n 0, 1) := by decide +kernel
theorem dX4_firstLetters_19 : decode cX4_firstLetters 19 = .ok (.iload 5, 2) := by decide +kernel
theorem dX4_firstLetters_21 : decode cX4_firstLetters 21 = .ok (.invokestatic 13, 3) := by decide +kernel
theorem dX4_firstLetters_24 : decode cX4_firstLetters 24 = .ok (.istore 6, 2) := by decide +kernel
theorem dX4_firstLetters_26 : decode cX4_firstLetters 26 = .ok (.iload 6, 2) := by decide +kernel
theorem dX4_firstLetters_28 : decode cX4_firstLetters 28 = .ok (.invokestatic 42, 3) := by decide +kernel
theorem dX4_firstLetters_31 : decode cX4_firstLetters 31 = .ok (.ifCond .eq 8, 3) := by decide +kernel
theorem dX4_firstLetters_34 : decode cX4_firstLetters 34 = .ok (.iload 6, 2) := by decide +kernel
theorem dX4_firstLetters_36 : decode cX4_firstLetters 36 = .ok (.goto 14, 3) := by decide +kernel
theorem dX4_firstLetters_39 : decode cX4_firstLetters 39 = .ok (.iload 6, 2) := by decide +kernel
theorem dX4_firstLetters_41 : decode cX4_firstLetters 41 = .ok (.invokestatic 46, 3) := by decide +kernel
theorem dX4_firstLetters_44 : decode cX4_firstLetters 44 = .ok (.invokestatic 49, 3) := by decide +kernel
theorem dX4_firstLetters_47 : decode cX4_firstLetters 47 = .ok (.invokestatic 52, 3) := by decide +kernel
theorem dX4_firstLetters_50 : decode cX4_firstLetters 50 = .ok (.istore 7, 2) := by decide +kernel
theorem dX4_firstLetters_52 : decode cX4_firstLetters 52 = .ok (.lload_n 2, 1) := by decide +kernel
theorem dX4_firstLetters_53 : decode cX4_firstLetters 53 = .ok (.iload 5, 2) := by decide +kernel
theorem dX4_firstLetters_55 : decode cX4_firstLetters 55 = .ok (.iload 7, 2) := by decide +kernel
theorem dX4_firstLetters_57 : decode cX4_firstLetters 57 = .ok (.invokestatic 23, 3) := by decide +kernel
theorem dX4_firstLetters_60 : decode cX4_firstLetters 60 = .ok (.lstore_n 2, 1) := by decide +kernel
theorem dX4_firstLetters_61 : decode cX4_firstLetters 61 = .ok (.iinc 5 1, 3) := by decide +kernel
theorem dX4_firstLetters_64 : decode cX4_firstLetters 64 = .ok (.goto (-53), 3) := by decide +kernel
theorem dX4_firstLetters_67 : decode cX4_firstLetters 67 = .ok (.lload_n 2, 1) := by decide +kernel
theorem dX4_firstLetters_68 : decode cX4_firstLetters 68 = .ok (.lreturn, 1) := by decide +kernel
theorem dX5_init_0 : decode cX5_init 0 = .ok (.aload_n 0, 1) := by decide +kernel
theorem dX5_init_1 : decode cX5_init 1 = .ok (.invokespecial 3, 3) := by decide +kernel
theorem dX5_init_4 : decode cX5_init 4 = .ok (.aload_n 0, 1) := by decide +kernel
theorem dX5_init_5 : decode cX5_init 5 = .ok (.new 9, 3) := by decide +kernel
theorem dX5_init_8 : decode cX5_init 8 = .ok (.dup, 1) := by decide +kernel
theorem dX5_init_9 : decode cX5_init 9 = .ok (.invokespecial 11, 3) := by decide +kernel
theorem dX5_init_12 : decode cX5_init 12 = .ok (.putfield 12, 3) := by decide +kernel
theorem dX5_init_15 : decode cX5_init 15 = .ok (.aload_n 0, 1) := by decide +kernel
theorem dX5_init_16 : decode cX5_init 16 = .ok (.new 18, 3) := by decide +kernel
theorem dX5_init_19 : decode cX5_init 19 = .ok (.dup, 1) := by decide +kernel
theorem dX5_init_20 : decode cX5_init 20 = .ok (.invokespecial 20, 3) := by decide +kernel
theorem dX5_init_23 : decode cX5_init 23 = .ok (.putfield 21, 3) := by decide +kernel
theorem dX5_init_26 : decode cX5_init 26 = .ok (.aload_n 0, 1) := by decide +kernel
theorem dX5_init_27 : decode cX5_init 27 = .ok (.bipush 10, 2) := by decide +kernel
theorem dX5_init_29 : decode cX5_init 29 = .ok (.putfield 25, 3) := by decide +kernel
theorem dX5_init_32 : decode cX5_init 32 = .ok (.aload_n 0, 1) := by decide +kernel
theorem dX5_init_33 : decode cX5_init 33 = .ok (.iconst (-1), 1) := by decide +kernel
theorem dX5_init_34 : decode cX5_init 34 = .ok (.putfield 29, 3) := by decide +kernel
theorem dX5_init_37 : decode cX5_init 37 = .ok (.aload_n 0, 1) := by decide +kernel
theorem dX5_init_38 : decode cX5_init 38 = .ok (.lconst 0, 1) := by decide +kernel
theorem dX5_init_39 : decode cX5_init 39 = .ok (.putfield 34, 3) := by decide +kernel
theorem dX5_init_42 : decode cX5_init 42 = .ok (.aload_n 0, 1) := by decide +kernel
theorem dX5_init_43 : decode cX5_init 43 = .ok (.iconst (-1), 1) := by decide +kernel
theorem dX5_init_44 : decode cX5_init 44 = .ok (.putfield 38, 3) := by decide +kernel
theorem dX5_init_47 : decode cX5_init 47 = .ok (.return_, 1) := by decide +kernel
theorem dX5_copyFrom_0 : decode cX5_copyFrom 0 = .ok (.aload_n 0, 1) := by decide +kernel
theorem dX5_copyFrom_1 : decode cX5_copyFrom 1 = .ok (.getfield 12, 3) := by decide +kernel
theorem dX5_copyFrom_4 : decode cX5_copyFrom 4 = .ok (.aload_n 1, 1) := by decide +kernel
theorem dX5_copyFrom_5 : decode cX5_copyFrom 5 = .ok (.getfield 12, 3) := by decide +kernel
theorem dX5_copyFrom_8 : decode cX5_copyFrom 8 = .ok (.invokevirtual 41, 3) := by decide +kernel
theorem dX5_copyFrom_11 : decode cX5_copyFrom 11 = .ok (.aload_n 0, 1) := by decide +kernel
theorem dX5_copyFrom_12 : decode cX5_copyFrom 12 = .ok (.getfield 21, 3) := by decide +kernel
theorem dX5_copyFrom_15 : decode cX5_copyFrom 15 = .ok (.aload_n 1, 1) := by decide +kernel
theorem dX5_copyFrom_16 : decode cX5_copyFrom 16 = .ok (.getfield 21, 3) := by decide +kernel
theorem dX5_copyFrom_19 : decode cX5_copyFrom 19 = .ok (.invokevirtual 45, 3) := by decide +kernel
theorem dX5_copyFrom_22 : decode cX5_copyFrom 22 = .ok (.aload_n 0, 1) := by decide +kernel
theorem dX5_copyFrom_23 : decode cX5_copyFrom 23 = .ok (.aload_n 1, 1) := by decide +kernel
theorem dX5_copyFrom_24 : decode cX5_copyFrom 24 = .ok (.getfield 48, 3) := by decide +kernel
theorem dX5_copyFrom_27 : decode cX5_copyFrom 27 = .ok (.putfield 48, 3) := by decide +kernel
theorem dX5_copyFrom_30 : decode cX5_copyFrom 30 = .ok (.aload_n 0, 1) := by decide +kernel
theorem dX5_copyFrom_31 : decode cX5_copyFrom 31 = .ok (.aload_n 1, 1) := by decide +kernel
theorem dX5_copyFrom_32 : decode cX5_copyFrom 32 = .ok (.getfield 25, 3) := by decide +kernel
theorem dX5_copyFrom_35 : decode cX5_copyFrom 35 = .ok (.putfield 25, 3) := by decide +kernel
theorem dX5_copyFrom_38 : decode cX5_copyFrom 38 = .ok (.aload_n 0, 1) := by decide +kernel
theorem dX5_copyFrom_39 : decode cX5_copyFrom 39 = .ok (.aload_n 1, 1) := by decide +kernel
theorem dX5_copyFrom_40 : decode cX5_copyFrom 40 = .ok (.getfield 51, 3) := by decide +kernel
theorem dX5_copyFrom_43 : decode cX5_copyFrom 43 = .ok (.putfield 51, 3) := by decide +kernel
theorem dX5_copyFrom_46 : decode cX5_copyFrom 46 = .ok (.aload_n 0, 1) := by decide +kernel
theorem dX5_copyFrom_47 : decode cX5_copyFrom 47 = .ok (.aload_n 1, 1) := by decide +kernel
theorem dX5_copyFrom_48 : decode cX5_copyFrom 48 = .ok (.getfield 55, 3) := by decide +kernel
theorem dX5_copyFrom_51 : decode cX5_copyFrom 51 = .ok (.putfield 55, 3) := by decide +kernel
theorem dX5_copyFrom_54 : decode cX5_copyFrom 54 = .ok (.aload_n 0, 1) := by decide +kernel
theorem dX5_copyFrom_55 : decode cX5_copyFrom 55 = .ok (.aload_n 1, 1) := by decide +kernel
theorem dX5_copyFrom_56 : decode cX5_copyFrom 56 = .ok (.getfield 29, 3) := by decide +kernel
theorem dX5_copyFrom_59 : decode cX5_copyFrom 59 = .ok (.putfield 29, 3) := by decide +kernel
theorem dX5_copyFrom_62 : decode cX5_copyFrom 62 = .ok (.aload_n 0, 1) := by decide +kernel
theorem dX5_copyFrom_63 : decode cX5_copyFrom 63 = .ok (.aload_n 1, 1) := by decide +kernel
theorem dX5_copyFrom_64 : decode cX5_copyFrom 64 = .ok (.getfield 34, 3) := by decide +kernel
theorem dX5_copyFrom_67 : decode cX5_copyFrom 67 = .ok (.putfield 34, 3) := by decide +kernel
theorem dX5_copyFrom_70 : decode cX5_copyFrom 70 = .ok (.aload_n 0, 1) := by decide +kernel
theorem dX5_copyFrom_71 : decode cX5_copyFrom 71 = .ok (.aload_n 1, 1) := by decide +kernel
theorem dX5_copyFrom_72 : decode cX5_copyFrom 72 = .ok (.getfield 58, 3) := by decide +kernel
theorem dX5_copyFrom_75 : decode cX5_copyFrom 75 = .ok (.putfield 58, 3) := by decide +kernel
theorem dX5_copyFrom_78 : decode cX5_copyFrom 78 = .ok (.aload_n 0, 1) := by decide +kernel
theorem dX5_copyFrom_79 : decode cX5_copyFrom 79 = .ok (.aload_n 1, 1) := by decide +kernel
theorem dX5_copyFrom_80 : decode cX5_copyFrom 80 = .ok (.getfield 38, 3) := by decide +kernel
theorem dX5_copyFrom_83 : decode cX5_copyFrom 83 = .ok (.putfield 38, 3) := by decide +kernel
theorem dX5_copyFrom_86 : decode cX5_copyFrom 86 = .ok (.return_, 1) := by decide +kernel
theorem dX5_places_0 : decode cX5_places 0 = .ok (.aload_n 0, 1) := by decide +kernel
theorem dX5_places_1 : decode cX5_places 1 = .ok (.getfield 34, 3) := by decide +kernel
theorem dX5_places_4 : decode cX5_places 4 = .ok (.invokestatic 61, 3) := by decide +kernel
theorem dX5_places_7 : decode cX5_places 7 = .ok (.ireturn, 1) := by decide +kernel
theorem dX5_addPlace_0 : decode cX5_addPlace 0 = .ok (.aload_n 0, 1) := by decide +kernel
theorem dX5_addPlace_1 : decode cX5_addPlace 1 = .ok (.getfield 55, 3) := by decide +kernel
theorem dX5_addPlace_4 : decode cX5_addPlace 4 = .ok (.ifCond .eq 33, 3) := by decide +kernel
theorem dX5_addPlace_7 : decode cX5_addPlace 7 = .ok (.aload_n 0, 1) := by decide +kernel
theorem dX5_addPlace_8 : decode cX5_addPlace 8 = .ok (.aload_n 0, 1) := by decide +kernel
theorem dX5_addPlace_9 : decode cX5_addPlace 9 = .ok (.getfield 34, 3) := by decide +kernel
theorem dX5_addPlace_12 : decode cX5_addPlace 12 = .ok (.aload_n 0, 1) := by decide +kernel
theorem dX5_addPlace_13 : decode cX5_addPlace 13 = .ok (.invokevirtual 65, 3) := by decide +kernel
theorem dX5_addPlace_16 : decode cX5_addPlace 16 = .ok (.iload_n 1, 1) := by decide +kernel
theorem dX5_addPlace_17 : decode cX5_addPlace 17 = .ok (.invokestatic 69, 3) := by decide +kernel
theorem dX5_addPlace_20 : decode cX5_addPlace 20 = .ok (.invokestatic 75, 3) := by decide +kernel
theorem dX5_addPlace_23 : decode cX5_addPlace 23 = .ok (.invokestatic 78, 3) := by decide +kernel
theorem dX5_addPlace_26 : decode cX5_addPlace 26 = .ok (.putfield 34, 3) := by decide +kernel
theorem dX5_addPlace_29 : decode cX5_addPlace 29 = .ok (.aload_n 0, 1) := by decide +kernel
theorem dX5_addPlace_30 : decode cX5_addPlace 30 = .ok (.iload_n 1, 1) := by decide +kernel
theorem dX5_addPlace_31 : decode cX5_addPlace 31 = .ok (.putfield 29, 3) := by decide +kernel
theorem dX5_addPlace_34 : decode cX5_addPlace 34 = .ok (.goto 22, 3) := by decide +kernel
theorem dX5_addPlace_37 : decode cX5_addPlace 37 = .ok (.aload_n 0, 1) := by decide +kernel
theorem dX5_addPlace_38 : decode cX5_addPlace 38 = .ok (.aload_n 0, 1) := by decide +kernel
theorem dX5_addPlace_39 : decode cX5_addPlace 39 = .ok (.getfield 34, 3) := by decide +kernel
theorem dX5_addPlace_42 : decode cX5_addPlace 42 = .ok (.aload_n 0, 1) := by decide +kernel
theorem dX5_addPlace_43 : decode cX5_addPlace 43 = .ok (.invokevirtual 65, 3) := by decide +kernel
theorem dX5_addPlace_46 : decode cX5_addPlace 46 = .ok (.iload_n 1, 1) := by decide +kernel
theorem dX5_addPlace_47 : decode cX5_addPlace 47 = .ok (.invokestatic 82, 3) := by decide +kernel
theorem dX5_addPlace_50 : decode cX5_addPlace 50 = .ok (.invokestatic 78, 3) := by decide +kernel
theorem dX5_addPlace_53 : decode cX5_addPlace 53 = .ok (.putfield 34, 3) := by decide +kernel
theorem dX5_addPlace_56 : decode cX5_addPlace 56 = .ok (.aload_n 0, 1) := by decide +kernel
theorem dX5_addPlace_57 : decode cX5_addPlace 57 = .ok (.iconst 0, 1) := by decide +kernel
theorem dX5_addPlace_58 : decode cX5_addPlace 58 = .ok (.putfield 58, 3) := by decide +kernel
theorem dX5_addPlace_61 : decode cX5_addPlace 61 = .ok (.return_, 1) := by decide +kernel
theorem dX5_turnLastPlace_0 : decode cX5_turnLastPlace 0 = .ok (.aload_n 0, 1) := by decide +kernel
theorem dX5_turnLastPlace_1 : decode cX5_turnLastPlace 1 = .ok (.invokevirtual 65, 3) := by decide +kernel
theorem dX5_turnLastPlace_4 : decode cX5_turnLastPlace 4 = .ok (.iconst 1, 1) := by decide +kernel
theorem dX5_turnLastPlace_5 : decode cX5_turnLastPlace 5 = .ok (.isub, 1) := by decide +kernel
theorem dX5_turnLastPlace_6 : decode cX5_turnLastPlace 6 = .ok (.istore_n 1, 1) := by decide +kernel
theorem dX5_turnLastPlace_7 : decode cX5_turnLastPlace 7 = .ok (.aload_n 0, 1) := by decide +kernel
theorem dX5_turnLastPlace_8 : decode cX5_turnLastPlace 8 = .ok (.getfield 34, 3) := by decide +kernel
theorem dX5_turnLastPlace_11 : decode cX5_turnLastPlace 11 = .ok (.iload_n 1, 1) := by decide +kernel
theorem dX5_turnLastPlace_12 : decode cX5_turnLastPlace 12 = .ok (.invokestatic 85, 3) := by decide +kernel
theorem dX5_turnLastPlace_15 : decode cX5_turnLastPlace 15 = .ok (.invokestatic 89, 3) := by decide +kernel
theorem dX5_turnLastPlace_18 : decode cX5_turnLastPlace 18 = .ok (.istore_n 2, 1) := by decide +kernel
theorem dX5_turnLastPlace_19 : decode cX5_turnLastPlace 19 = .ok (.aload_n 0, 1) := by decide +kernel
theorem dX5_turnLastPlace_20 : decode cX5_turnLastPlace 20 = .ok (.aload_n 0, 1) := by decide +kernel
theorem dX5_turnLastPlace_21 : decode cX5_turnLastPlace 21 = .ok (.getfield 34, 3) := by decide +kernel
theorem dX5_turnLastPlace_24 : decode cX5_turnLastPlace 24 = .ok (.iload_n 1, 1) := by decide +kernel
theorem dX5_turnLastPlace_25 : decode cX5_turnLastPlace 25 = .ok (.iload_n 2, 1) := by decide +kernel
theorem dX5_turnLastPlace_26 : decode cX5_turnLastPlace 26 = .ok (.invokestatic 75, 3) := by decide +kernel
theorem dX5_turnLastPlace_29 : decode cX5_turnLastPlace 29 = .ok (.invokestatic 78, 3) := by decide +kernel
theorem dX5_turnLastPlace_32 : decode cX5_turnLastPlace 32 = .ok (.putfield 34, 3) := by decide +kernel
theorem dX5_turnLastPlace_35 : decode cX5_turnLastPlace 35 = .ok (.aload_n 0, 1) := by decide +kernel
theorem dX5_turnLastPlace_36 : decode cX5_turnLastPlace 36 = .ok (.iconst 0, 1) := by decide +kernel
theorem dX5_turnLastPlace_37 : decode cX5_turnLastPlace 37 = .ok (.putfield 58, 3) := by decide +kernel
theorem dX5_turnLastPlace_40 : decode cX5_turnLastPlace 40 = .ok (.return_, 1) := by decide +kernel
theorem dX5_dropLastPlace_0 : decode cX5_dropLastPlace 0 = .ok (.aload_n 0, 1) := by decide +kernel
theorem dX5_dropLastPlace_1 : decode cX5_dropLastPlace 1 = .ok (.aload_n 0, 1) := by decide +kernel
theorem dX5_dropLastPlace_2 : decode cX5_dropLastPlace 2 = .ok (.getfield 34, 3) := by decide +kernel
theorem dX5_dropLastPlace_5 : decode cX5_dropLastPlace 5 = .ok (.aload_n 0, 1) := by decide +kernel
theorem dX5_dropLastPlace_6 : decode cX5_dropLastPlace 6 = .ok (.invokevirtual 65, 3) := by decide +kernel
theorem dX5_dropLastPlace_9 : decode cX5_dropLastPlace 9 = .ok (.iconst 1, 1) := by decide +kernel
theorem dX5_dropLastPlace_10 : decode cX5_dropLastPlace 10 = .ok (.isub, 1) := by decide +kernel
theorem dX5_dropLastPlace_11 : decode cX5_dropLastPlace 11 = .ok (.invokestatic 92, 3) := by decide +kernel
theorem dX5_dropLastPlace_14 : decode cX5_dropLastPlace 14 = .ok (.putfield 34, 3) := by decide +kernel
theorem dX5_dropLastPlace_17 : decode cX5_dropLastPlace 17 = .ok (.aload_n 0, 1) := by decide +kernel
theorem dX5_dropLastPlace_18 : decode cX5_dropLastPlace 18 = .ok (.iconst (-1), 1) := by decide +kernel
theorem dX5_dropLastPlace_19 : decode cX5_dropLastPlace 19 = .ok (.putfield 29, 3) := by decide +kernel
theorem dX5_dropLastPlace_22 : decode cX5_dropLastPlace 22 = .ok (.aload_n 0, 1) := by decide +kernel
theorem dX5_dropLastPlace_23 : decode cX5_dropLastPlace 23 = .ok (.iconst 0, 1) := by decide +kernel
theorem dX5_dropLastPlace_24 : decode cX5_dropLastPlace 24 = .ok (.putfield 58, 3) := by decide +kernel
theorem dX5_dropLastPlace_27 : decode cX5_dropLastPlace 27 = .ok (.aload_n 0, 1) := by decide +kernel
theorem dX5_dropLastPlace_28 : decode cX5_dropLastPlace 28 = .ok (.getfield 34, 3) := by decide +kernel
theorem dX5_dropLastPlace_31 : decode cX5_dropLastPlace 31 = .ok (.lconst 0, 1) := by decide +kernel
theorem dX5_dropLastPlace_32 : decode cX5_dropLastPlace 32 = .ok (.lcmp, 1) := by decide +kernel
theorem dX5_dropLastPlace_33 : decode cX5_dropLastPlace 33 = .ok (.ifCond .ne 27, 3) := by decide +kernel
theorem dX5_dropLastPlace_36 : decode cX5_dropLastPlace 36 = .ok (.aload_n 0, 1) := by decide +kernel
theorem dX5_dropLastPlace_37 : decode cX5_dropLastPlace 37 = .ok (.getfield 38, 3) := by decide +kernel
theorem dX5_dropLastPlace_40 : decode cX5_dropLastPlace 40 = .ok (.iconst (-1), 1) := by decide +kernel
theorem dX5_dropLastPlace_41 : decode cX5_dropLastPlace 41 = .ok (.if_icmp .eq 19, 3) := by decide +kernel
theorem dX5_dropLastPlace_44 : decode cX5_dropLastPlace 44 = .ok (.aload_n 0, 1) := by decide +kernel
theorem dX5_dropLastPlace_45 : decode cX5_dropLastPlace 45 = .ok (.getfield 21, 3) := by decide +kernel
theorem dX5_dropLastPlace_48 : decode cX5_dropLastPlace 48 = .ok (.aload_n 0, 1) := by decide +kernel
theorem dX5_dropLastPlace_49 : decode cX5_dropLastPlace 49 = .ok (.getfield 38, 3) := by decide +kernel
theorem dX5_dropLastPlace_52 : decode cX5_dropLastPlace 52 = .ok (.invokevirtual 96, 3) := by decide +kernel
theorem dX5_dropLastPlace_55 : decode cX5_dropLastPlace 55 = .ok (.aload_n 0, 1) := by decide +kernel
theorem dX5_dropLastPlace_56 : decode cX5_dropLastPlace 56 = .ok (.iconst (-1), 1) := by decide +kernel
theorem dX5_dropLastPlace_57 : decode cX5_dropLastPlace 57 = .ok (.putfield 38, 3) := by decide +kernel
theorem dX5_dropLastPlace_60 : decode cX5_dropLastPlace 60 = .ok (.return_, 1) := by decide +kernel
theorem dX5_openWritten_0 : decode cX5_openWritten 0 = .ok (.aload_n 0, 1) := by decide +kernel
theorem dX5_openWritten_1 : decode cX5_openWritten 1 = .ok (.aload_n 0, 1) := by decide +kernel
theorem dX5_openWritten_2 : decode cX5_openWritten 2 = .ok (.getfield 21, 3) := by decide +kernel
theorem dX5_openWritten_5 : decode cX5_openWritten 5 = .ok (.iload_n 1, 1) := by decide +kernel
theorem dX5_openWritten_6 : decode cX5_openWritten 6 = .ok (.invokevirtual 100, 3) := by decide +kernel
theorem dX5_openWritten_9 : decode cX5_openWritten 9 = .ok (.putfield 34, 3) := by decide +kernel
theorem dX5_openWritten_12 : decode cX5_openWritten 12 = .ok (.aload_n 0, 1) := by decide +kernel
theorem dX5_openWritten_13 : decode cX5_openWritten 13 = .ok (.iload_n 1, 1) := by decide +kernel
theorem dX5_openWritten_14 : decode cX5_openWritten 14 = .ok (.putfield 38, 3) := by decide +kernel
theorem dX5_openWritten_17 : decode cX5_openWritten 17 = .ok (.aload_n 0, 1) := by decide +kernel
theorem dX5_openWritten_18 : decode cX5_openWritten 18 = .ok (.iconst 0, 1) := by decide +kernel
theorem dX5_openWritten_19 : decode cX5_openWritten 19 = .ok (.putfield 58, 3) := by decide +kernel
theorem dX5_openWritten_22 : decode cX5_openWritten 22 = .ok (.return_, 1) := by decide +kernel
theorem dX5_takeWord_0 : decode cX5_takeWord 0 = .ok (.aload_n 0, 1) := by decide +kernel
theorem dX5_takeWord_1 : decode cX5_takeWord 1 = .ok (.dup, 1) := by decide +kernel
theorem dX5_takeWord_2 : decode cX5_takeWord 2 = .ok (.getfield 48, 3) := by decide +kernel
theorem dX5_takeWord_5 : decode cX5_takeWord 5 = .ok (.iconst 1, 1) := by decide +kernel
theorem dX5_takeWord_6 : decode cX5_takeWord 6 = .ok (.iadd, 1) := by decide +kernel
theorem dX5_takeWord_7 : decode cX5_takeWord 7 = .ok (.putfield 48, 3) := by decide +kernel
theorem dX5_takeWord_10 : decode cX5_takeWord 10 = .ok (.aload_n 0, 1) := by decide +kernel
theorem dX5_takeWord_11 : decode cX5_takeWord 11 = .ok (.getfield 12, 3) := by decide +kernel
theorem dX5_takeWord_14 : decode cX5_takeWord 14 = .ok (.lload_n 1, 1) := by decide +kernel
theorem dX5_takeWord_15 : decode cX5_takeWord 15 = .ok (.aload_n 0, 1) := by decide +kernel
theorem dX5_takeWord_16 : decode cX5_takeWord 16 = .ok (.getfield 48, 3) := by decide +kernel
theorem dX5_takeWord_19 : decode cX5_takeWord 19 = .ok (.invokevirtual 104, 3) := by decide +kernel
theorem dX5_takeWord_22 : decode cX5_takeWord 22 = .ok (.aload_n 0, 1) := by decide +kernel
theorem dX5_takeWord_23 : decode cX5_takeWord 23 = .ok (.getfield 25, 3) := by decide +kernel
theorem dX5_takeWord_26 : decode cX5_takeWord 26 = .ok (.ifCond .le 23, 3) := by decide +kernel
theorem dX5_takeWord_29 : decode cX5_takeWord 29 = .ok (.aload_n 0, 1) := by decide +kernel
theorem dX5_takeWord_30 : decode cX5_takeWord 30 = .ok (.getfield 48, 3) := by decide +kernel
theorem dX5_takeWord_33 : decode cX5_takeWord 33 = .ok (.aload_n 0, 1) := by decide +kernel
theorem dX5_takeWord_34 : decode cX5_takeWord 34 = .ok (.getfield 25, 3) := by decide +kernel
theorem dX5_takeWord_37 : decode cX5_takeWord 37 = .ok (.irem, 1) := by decide +kernel
theorem dX5_takeWord_38 : decode cX5_takeWord 38 = .ok (.ifCond .ne 11, 3) := by decide +kernel
theorem dX5_takeWord_41 : decode cX5_takeWord 41 = .ok (.aload_n 0, 1) := by decide +kernel
theorem dX5_takeWord_42 : decode cX5_takeWord 42 = .ok (.getfield 12, 3) := by decide +kernel
theorem dX5_takeWord_45 : decode cX5_takeWord 45 = .ok (.lload_n 1, 1) := by decide +kernel
theorem dX5_takeWord_46 : decode cX5_takeWord 46 = .ok (.invokevirtual 108, 3) := by decide +kernel
theorem dX5_takeWord_49 : decode cX5_takeWord 49 = .ok (.aload_n 0, 1) := by decide +kernel
theorem dX5_takeWord_50 : decode cX5_takeWord 50 = .ok (.getfield 38, 3) := by decide +kernel
theorem dX5_takeWord_53 : decode cX5_takeWord 53 = .ok (.iconst (-1), 1) := by decide +kernel
theorem dX5_takeWord_54 : decode cX5_takeWord 54 = .ok (.if_icmp .ne 14, 3) := by decide +kernel
theorem dX5_takeWord_57 : decode cX5_takeWord 57 = .ok (.aload_n 0, 1) := by decide +kernel
theorem dX5_takeWord_58 : decode cX5_takeWord 58 = .ok (.getfield 21, 3) := by decide +kernel
theorem dX5_takeWord_61 : decode cX5_takeWord 61 = .ok (.lload_n 1, 1) := by decide +kernel
theorem dX5_takeWord_62 : decode cX5_takeWord 62 = .ok (.invokevirtual 112, 3) := by decide +kernel
theorem dX5_takeWord_65 : decode cX5_takeWord 65 = .ok (.goto 15, 3) := by decide +kernel
theorem dX5_takeWord_68 : decode cX5_takeWord 68 = .ok (.aload_n 0, 1) := by decide +kernel
theorem dX5_takeWord_69 : decode cX5_takeWord 69 = .ok (.getfield 21, 3) := by decide +kernel
theorem dX5_takeWord_72 : decode cX5_takeWord 72 = .ok (.aload_n 0, 1) := by decide +kernel
theorem dX5_takeWord_73 : decode cX5_takeWord 73 = .ok (.getfield 38, 3) := by decide +kernel
theorem dX5_takeWord_76 : decode cX5_takeWord 76 = .ok (.lload_n 1, 1) := by decide +kernel
theorem dX5_takeWord_77 : decode cX5_takeWord 77 = .ok (.invokevirtual 115, 3) := by decide +kernel
theorem dX5_takeWord_80 : decode cX5_takeWord 80 = .ok (.aload_n 0, 1) := by decide +kernel
theorem dX5_takeWord_81 : decode cX5_takeWord 81 = .ok (.lconst 0, 1) := by decide +kernel
theorem dX5_takeWord_82 : decode cX5_takeWord 82 = .ok (.putfield 34, 3) := by decide +kernel
theorem dX5_takeWord_85 : decode cX5_takeWord 85 = .ok (.aload_n 0, 1) := by decide +kernel
theorem dX5_takeWord_86 : decode cX5_takeWord 86 = .ok (.iconst (-1), 1) := by decide +kernel
theorem dX5_takeWord_87 : decode cX5_takeWord 87 = .ok (.putfield 29, 3) := by decide +kernel
theorem dX5_takeWord_90 : decode cX5_takeWord 90 = .ok (.aload_n 0, 1) := by decide +kernel
theorem dX5_takeWord_91 : decode cX5_takeWord 91 = .ok (.iconst 0, 1) := by decide +kernel
theorem dX5_takeWord_92 : decode cX5_takeWord 92 = .ok (.putfield 58, 3) := by decide +kernel
theorem dX5_takeWord_95 : decode cX5_takeWord 95 = .ok (.aload_n 0, 1) := by decide +kernel
theorem dX5_takeWord_96 : decode cX5_takeWord 96 = .ok (.iconst (-1), 1) := by decide +kernel
theorem dX5_takeWord_97 : decode cX5_takeWord 97 = .ok (.putfield 38, 3) := by decide +kernel
theorem dX5_takeWord_100 : decode cX5_takeWord 100 = .ok (.return_, 1) := by decide +kernel
theorem dX6_init_0 : decode cX6_init 0 = .ok (.aload_n 0, 1) := by decide +kernel
theorem dX6_init_1 : decode cX6_init 1 = .ok (.invokespecial 3, 3) := by decide +kernel
theorem dX6_init_4 : decode cX6_init 4 = .ok (.aload_n 0, 1) := by decide +kernel
theorem dX6_init_5 : decode cX6_init 5 = .ok (.bipush 50, 2) := by decide +kernel
theorem dX6_init_7 : decode cX6_init 7 = .ok (.newarray .long, 2) := by decide +kernel
theorem dX6_init_9 : decode cX6_init 9 = .ok (.putfield 9, 3) := by decide +kernel
theorem dX6_init_12 : decode cX6_init 12 = .ok (.aload_n 0, 1) := by decide +kernel
theorem dX6_init_13 : decode cX6_init 13 = .ok (.bipush 50, 2) := by decide +kernel
theorem dX6_init_15 : decode cX6_init 15 = .ok (.newarray .long, 2) := by decide +kernel
theorem dX6_init_17 : decode cX6_init 17 = .ok (.putfield 15, 3) := by decide +kernel
theorem dX6_init_20 : decode cX6_init 20 = .ok (.aload_n 0, 1) := by decide +kernel
theorem dX6_init_21 : decode cX6_init 21 = .ok (.bipush 50, 2) := by decide +kernel
theorem dX6_init_23 : decode cX6_init 23 = .ok (.newarray .int, 2) := by decide +kernel
theorem dX6_init_25 : decode cX6_init 25 = .ok (.putfield 18, 3) := by decide +kernel
theorem dX6_init_28 : decode cX6_init 28 = .ok (.aload_n 0, 1) := by decide +kernel
theorem dX6_init_29 : decode cX6_init 29 = .ok (.bipush 50, 2) := by decide +kernel
theorem dX6_init_31 : decode cX6_init 31 = .ok (.newarray .int, 2) := by decide +kernel
theorem dX6_init_33 : decode cX6_init 33 = .ok (.putfield 22, 3) := by decide +kernel
theorem dX6_init_36 : decode cX6_init 36 = .ok (.aload_n 0, 1) := by decide +kernel
theorem dX6_init_37 : decode cX6_init 37 = .ok (.bipush 50, 2) := by decide +kernel
theorem dX6_init_39 : decode cX6_init 39 = .ok (.newarray .boolean, 2) := by decide +kernel
theorem dX6_init_41 : decode cX6_init 41 = .ok (.putfield 25, 3) := by decide +kernel
theorem dX6_init_44 : decode cX6_init 44 = .ok (.return_, 1) := by decide +kernel
theorem dX6_clear_0 : decode cX6_clear 0 = .ok (.aload_n 0, 1) := by decide +kernel
theorem dX6_clear_1 : decode cX6_clear 1 = .ok (.iconst 0, 1) := by decide +kernel
theorem dX6_clear_2 : decode cX6_clear 2 = .ok (.putfield 29, 3) := by decide +kernel
theorem dX6_clear_5 : decode cX6_clear 5 = .ok (.return_, 1) := by decide +kernel
theorem dX6_copyFrom_0 : decode cX6_copyFrom 0 = .ok (.aload_n 1, 1) := by decide +kernel
theorem dX6_copyFrom_1 : decode cX6_copyFrom 1 = .ok (.getfield 9, 3) := by decide +kernel
theorem dX6_copyFrom_4 : decode cX6_copyFrom 4 = .ok (.iconst 0, 1) := by decide +kernel
theorem dX6_copyFrom_5 : decode cX6_copyFrom 5 = .ok (.aload_n 0, 1) := by decide +kernel
theorem dX6_copyFrom_6 : decode cX6_copyFrom 6 = .ok (.getfield 9, 3) := by decide +kernel
theorem dX6_copyFrom_9 : decode cX6_copyFrom 9 = .ok (.iconst 0, 1) := by decide +kernel
theorem dX6_copyFrom_10 : decode cX6_copyFrom 10 = .ok (.bipush 50, 2) := by decide +kernel
theorem dX6_copyFrom_12 : decode cX6_copyFrom 12 = .ok (.invokestatic 33, 3) := by decide +kernel
theorem dX6_copyFrom_15 : decode cX6_copyFrom 15 = .ok (.aload_n 1, 1) := by decide +kernel
theorem dX6_copyFrom_16 : decode cX6_copyFrom 16 = .ok (.getfield 15, 3) := by decide +kernel
theorem dX6_copyFrom_19 : decode cX6_copyFrom 19 = .ok (.iconst 0, 1) := by decide +kernel
theorem dX6_copyFrom_20 : decode cX6_copyFrom 20 = .ok (.aload_n 0, 1) := by decide +kernel
theorem dX6_copyFrom_21 : decode cX6_copyFrom 21 = .ok (.getfield 15, 3) := by decide +kernel
theorem dX6_copyFrom_24 : decode cX6_copyFrom 24 = .ok (.iconst 0, 1) := by decide +kernel
theorem dX6_copyFrom_25 : decode cX6_copyFrom 25 = .ok (.bipush 50, 2) := by decide +kernel
theorem dX6_copyFrom_27 : decode cX6_copyFrom 27 = .ok (.invokestatic 33, 3) := by decide +kernel
theorem dX6_copyFrom_30 : decode cX6_copyFrom 30 = .ok (.aload_n 1, 1) := by decide +kernel
theorem dX6_copyFrom_31 : decode cX6_copyFrom 31 = .ok (.getfield 18, 3) := by decide +kernel
theorem dX6_copyFrom_34 : decode cX6_copyFrom 34 = .ok (.iconst 0, 1) := by decide +kernel
theorem dX6_copyFrom_35 : decode cX6_copyFrom 35 = .ok (.aload_n 0, 1) := by decide +kernel
theorem dX6_copyFrom_36 : decode cX6_copyFrom 36 = .ok (.getfield 18, 3) := by decide +kernel
theorem dX6_copyFrom_39 : decode cX6_copyFrom 39 = .ok (.iconst 0, 1) := by decide +kernel
theorem dX6_copyFrom_40 : decode cX6_copyFrom 40 = .ok (.bipush 50, 2) := by decide +kernel
theorem dX6_copyFrom_42 : decode cX6_copyFrom 42 = .ok (.invokestatic 33, 3) := by decide +kernel
theorem dX6_copyFrom_45 : decode cX6_copyFrom 45 = .ok (.aload_n 1, 1) := by decide +kernel
theorem dX6_copyFrom_46 : decode cX6_copyFrom 46 = .ok (.getfield 22, 3) := by decide +kernel
theorem dX6_copyFrom_49 : decode cX6_copyFrom 49 = .ok (.iconst 0, 1) := by decide +kernel
theorem dX6_copyFrom_50 : decode cX6_copyFrom 50 = .ok (.aload_n 0, 1) := by decide +kernel
theorem dX6_copyFrom_51 : decode cX6_copyFrom 51 = .ok (.getfield 22, 3) := by decide +kernel
theorem dX6_copyFrom_54 : decode cX6_copyFrom 54 = .ok (.iconst 0, 1) := by decide +kernel
theorem dX6_copyFrom_55 : decode cX6_copyFrom 55 = .ok (.bipush 50, 2) := by decide +kernel
theorem dX6_copyFrom_57 : decode cX6_copyFrom 57 = .ok (.invokestatic 33, 3) := by decide +kernel
theorem dX6_copyFrom_60 : decode cX6_copyFrom 60 = .ok (.iconst 0, 1) := by decide +kernel
theorem dX6_copyFrom_61 : decode cX6_copyFrom 61 = .ok (.istore_n 2, 1) := by decide +kernel
theorem dX6_copyFrom_62 : decode cX6_copyFrom 62 = .ok (.iload_n 2, 1) := by decide +kernel
theorem dX6_copyFrom_63 : decode cX6_copyFrom 63 = .ok (.bipush 50, 2) := by decide +kernel
theorem dX6_copyFrom_65 : decode cX6_copyFrom 65 = .ok (.if_icmp .ge 21, 3) := by decide +kernel
theorem dX6_copyFrom_68 : decode cX6_copyFrom 68 = .ok (.aload_n 0, 1) := by decide +kernel
theorem dX6_copyFrom_69 : decode cX6_copyFrom 69 = .ok (.getfield 25, 3) := by decide +kernel
theorem dX6_copyFrom_72 : decode cX6_copyFrom 72 = .ok (.iload_n 2, 1) := by decide +kernel
theorem dX6_copyFrom_73 : decode cX6_copyFrom 73 = .ok (.aload_n 1, 1) := by decide +kernel
theorem dX6_copyFrom_74 : decode cX6_copyFrom 74 = .ok (.getfield 25, 3) := by decide +kernel
theorem dX6_copyFrom_77 : decode cX6_copyFrom 77 = .ok (.iload_n 2, 1) := by decide +kernel
theorem dX6_copyFrom_78 : decode cX6_copyFrom 78 = .ok (.baload, 1) := by decide +kernel
theorem dX6_copyFrom_79 : decode cX6_copyFrom 79 = .ok (.bastore, 1) := by decide +kernel
theorem dX6_copyFrom_80 : decode cX6_copyFrom 80 = .ok (.iinc 2 1, 3) := by decide +kernel
theorem dX6_copyFrom_83 : decode cX6_copyFrom 83 = .ok (.goto (-21), 3) := by decide +kernel
theorem dX6_copyFrom_86 : decode cX6_copyFrom 86 = .ok (.aload_n 0, 1) := by decide +kernel
theorem dX6_copyFrom_87 : decode cX6_copyFrom 87 = .ok (.aload_n 1, 1) := by decide +kernel
theorem dX6_copyFrom_88 : decode cX6_copyFrom 88 = .ok (.getfield 29, 3) := by decide +kernel
theorem dX6_copyFrom_91 : decode cX6_copyFrom 91 = .ok (.putfield 29, 3) := by decide +kernel
theorem dX6_copyFrom_94 : decode cX6_copyFrom 94 = .ok (.return_, 1) := by decide +kernel
theorem dX6_has_0 : decode cX6_has 0 = .ok (.iload_n 1, 1) := by decide +kernel
theorem dX6_has_1 : decode cX6_has 1 = .ok (.ifCond .lt 21, 3) := by decide +kernel
theorem dX6_has_4 : decode cX6_has 4 = .ok (.iload_n 1, 1) := by decide +kernel
theorem dX6_has_5 : decode cX6_has 5 = .ok (.aload_n 0, 1) := by decide +kernel
theorem dX6_has_6 : decode cX6_has 6 = .ok (.getfield 29, 3) := by decide +kernel
theorem dX6_has_9 : decode cX6_has 9 = .ok (.if_icmp .ge 13, 3) := by decide +kernel
theorem dX6_has_12 : decode cX6_has 12 = .ok (.iload_n 1, 1) := by decide +kernel
theorem dX6_has_13 : decode cX6_has 13 = .ok (.bipush 50, 2) := by decide +kernel
theorem dX6_has_15 : decode cX6_has 15 = .ok (.if_icmp .ge 7, 3) := by decide +kernel
theorem dX6_has_18 : decode cX6_has 18 = .ok (.iconst 1, 1) := by decide +kernel
theorem dX6_has_19 : decode cX6_has 19 = .ok (.goto 4, 3) := by decide +kernel
theorem dX6_has_22 : decode cX6_has 22 = .ok (.iconst 0, 1) := by decide +kernel
theorem dX6_has_23 : decode cX6_has 23 = .ok (.ireturn, 1) := by decide +kernel
theorem dX6_isFull_0 : decode cX6_isFull 0 = .ok (.aload_n 0, 1) := by decide +kernel
theorem dX6_isFull_1 : decode cX6_isFull 1 = .ok (.getfield 29, 3) := by decide +kernel
theorem dX6_isFull_4 : decode cX6_isFull 4 = .ok (.bipush 50, 2) := by decide +kernel
theorem dX6_isFull_6 : decode cX6_isFull 6 = .ok (.if_icmp .lt 7, 3) := by decide +kernel
theorem dX6_isFull_9 : decode cX6_isFull 9 = .ok (.iconst 1, 1) := by decide +kernel
theorem dX6_isFull_10 : decode cX6_isFull 10 = .ok (.goto 4, 3) := by decide +kernel
theorem dX6_isFull_13 : decode cX6_isFull 13 = .ok (.iconst 0, 1) := by decide +kernel
theorem dX6_isFull_14 : decode cX6_isFull 14 = .ok (.ireturn, 1) := by decide +kernel
theorem dX6_wordAt_0 : decode cX6_wordAt 0 = .ok (.aload_n 0, 1) := by decide +kernel
theorem dX6_wordAt_1 : decode cX6_wordAt 1 = .ok (.iload_n 1, 1) := by decide +kernel
theorem dX6_wordAt_2 : decode cX6_wordAt 2 = .ok (.invokevirtual 39, 3) := by decide +kernel
theorem dX6_wordAt_5 : decode cX6_wordAt 5 = .ok (.ifCond .eq 12, 3) := by decide +kernel
theorem dX6_wordAt_8 : decode cX6_wordAt 8 = .ok (.aload_n 0, 1) := by decide +kernel
theorem dX6_wordAt_9 : decode cX6_wordAt 9 = .ok (.getfield 9, 3) := by decide +kernel
theorem dX6_wordAt_12 : decode cX6_wordAt 12 = .ok (.iload_n 1, 1) := by decide +kernel
theorem dX6_wordAt_13 : decode cX6_wordAt 13 = .ok (.laload, 1) := by decide +kernel
theorem dX6_wordAt_14 : decode cX6_wordAt 14 = .ok (.goto 4, 3) := by decide +kernel
theorem dX6_wordAt_17 : decode cX6_wordAt 17 = .ok (.lconst 0, 1) := by decide +kernel
theorem dX6_wordAt_18 : decode cX6_wordAt 18 = .ok (.lreturn, 1) := by decide +kernel
theorem dX6_keysAt_0 : decode cX6_keysAt 0 = .ok (.aload_n 0, 1) := by decide +kernel
theorem dX6_keysAt_1 : decode cX6_keysAt 1 = .ok (.iload_n 1, 1) := by decide +kernel
theorem dX6_keysAt_2 : decode cX6_keysAt 2 = .ok (.invokevirtual 39, 3) := by decide +kernel
theorem dX6_keysAt_5 : decode cX6_keysAt 5 = .ok (.ifCond .eq 12, 3) := by decide +kernel
theorem dX6_keysAt_8 : decode cX6_keysAt 8 = .ok (.aload_n 0, 1) := by decide +kernel
theorem dX6_keysAt_9 : decode cX6_keysAt 9 = .ok (.getfield 15, 3) := by decide +kernel
theorem dX6_keysAt_12 : decode cX6_keysAt 12 = .ok (.iload_n 1, 1) := by decide +kernel
theorem dX6_keysAt_13 : decode cX6_keysAt 13 = .ok (.laload, 1) := by decide +kernel
theorem dX6_keysAt_14 : decode cX6_keysAt 14 = .ok (.goto 4, 3) := by decide +kernel
theorem dX6_keysAt_17 : decode cX6_keysAt 17 = .ok (.lconst 0, 1) := by decide +kernel
theorem dX6_keysAt_18 : decode cX6_keysAt 18 = .ok (.lreturn, 1) := by decide +kernel
theorem dX6_countAt_0 : decode cX6_countAt 0 = .ok (.aload_n 0, 1) := by decide +kernel
theorem dX6_countAt_1 : decode cX6_countAt 1 = .ok (.iload_n 1, 1) := by decide +kernel
theorem dX6_countAt_2 : decode cX6_countAt 2 = .ok (.invokevirtual 39, 3) := by decide +kernel
theorem dX6_countAt_5 : decode cX6_countAt 5 = .ok (.ifCond .eq 12, 3) := by decide +kernel
theorem dX6_countAt_8 : decode cX6_countAt 8 = .ok (.aload_n 0, 1) := by decide +kernel
theorem dX6_countAt_9 : decode cX6_countAt 9 = .ok (.getfield 18, 3) := by decide +kernel
theorem dX6_countAt_12 : decode cX6_countAt 12 = .ok (.iload_n 1, 1) := by decide +kernel
theorem dX6_countAt_13 : decode cX6_countAt 13 = .ok (.iaload, 1) := by decide +kernel
theorem dX6_countAt_14 : decode cX6_countAt 14 = .ok (.goto 4, 3) := by decide +kernel
theorem dX6_countAt_17 : decode cX6_countAt 17 = .ok (.iconst 0, 1) := by decide +kernel
theorem dX6_countAt_18 : decode cX6_countAt 18 = .ok (.ireturn, 1) := by decide +kernel
theorem dX6_timeAt_0 : decode cX6_timeAt 0 = .ok (.aload_n 0, 1) := by decide +kernel
theorem dX6_timeAt_1 : decode cX6_timeAt 1 = .ok (.iload_n 1, 1) := by decide +kernel
theorem dX6_timeAt_2 : decode cX6_timeAt 2 = .ok (.invokevirtual 39, 3) := by decide +kernel
theorem dX6_timeAt_5 : decode cX6_timeAt 5 = .ok (.ifCond .eq 12, 3) := by decide +kernel
theorem dX6_timeAt_8 : decode cX6_timeAt 8 = .ok (.aload_n 0, 1) := by decide +kernel
theorem dX6_timeAt_9 : decode cX6_timeAt 9 = .ok (.getfield 22, 3) := by decide +kernel
theorem dX6_timeAt_12 : decode cX6_timeAt 12 = .ok (.iload_n 1, 1) := by decide +kernel
theorem dX6_timeAt_13 : decode cX6_timeAt 13 = .ok (.iaload, 1) := by decide +kernel
theorem dX6_timeAt_14 : decode cX6_timeAt 14 = .ok (.goto 4, 3) := by decide +kernel
theorem dX6_timeAt_17 : decode cX6_timeAt 17 = .ok (.iconst 0, 1) := by decide +kernel
theorem dX6_timeAt_18 : decode cX6_timeAt 18 = .ok (.ireturn, 1) := by decide +kernel
theorem dX6_isAdded_0 : decode cX6_isAdded 0 = .ok (.aload_n 0, 1) := by decide +kernel
theorem dX6_isAdded_1 : decode cX6_isAdded 1 = .ok (.iload_n 1, 1) := by decide +kernel
theorem dX6_isAdded_2 : decode cX6_isAdded 2 = .ok (.invokevirtual 39, 3) := by decide +kernel
theorem dX6_isAdded_5 : decode cX6_isAdded 5 = .ok (.ifCond .eq 16, 3) := by decide +kernel
theorem dX6_isAdded_8 : decode cX6_isAdded 8 = .ok (.aload_n 0, 1) := by decide +kernel
theorem dX6_isAdded_9 : decode cX6_isAdded 9 = .ok (.getfield 25, 3) := by decide +kernel
theorem dX6_isAdded_12 : decode cX6_isAdded 12 = .ok (.iload_n 1, 1) := by decide +kernel
theorem dX6_isAdded_13 : decode cX6_isAdded 13 = .ok (.baload, 1) := by decide +kernel
theorem dX6_isAdded_14 : decode cX6_isAdded 14 = .ok (.ifCond .eq 7, 3) := by decide +kernel
theorem dX6_isAdded_17 : decode cX6_isAdded 17 = .ok (.iconst 1, 1) := by decide +kernel
theorem dX6_isAdded_18 : decode cX6_isAdded 18 = .ok (.goto 4, 3) := by decide +kernel
theorem dX6_isAdded_21 : decode cX6_isAdded 21 = .ok (.iconst 0, 1) := by decide +kernel
theorem dX6_isAdded_22 : decode cX6_isAdded 22 = .ok (.ireturn, 1) := by decide +kernel
theorem dX6_valueOf_0 : decode cX6_valueOf 0 = .ok (.iload_n 2, 1) := by decide +kernel
theorem dX6_valueOf_1 : decode cX6_valueOf 1 = .ok (.tableswitch 76 0 4 #[35, 44, 50, 56, 70], 35) := by decide +kernel
theorem dX6_valueOf_36 : decode cX6_valueOf 36 = .ok (.aload_n 0, 1) := by decide +kernel
theorem dX6_valueOf_37 : decode cX6_valueOf 37 = .ok (.iload_n 1, 1) := by decide +kernel
theorem dX6_valueOf_38 : decode cX6_valueOf 38 = .ok (.invokevirtual 45, 3) := by decide +kernel
theorem dX6_valueOf_41 : decode cX6_valueOf 41 = .ok (.invokestatic 49, 3) := by decide +kernel
theorem dX6_valueOf_44 : decode cX6_valueOf 44 = .ok (.ireturn, 1) := by decide +kernel
theorem dX6_valueOf_45 : decode cX6_valueOf 45 = .ok (.aload_n 0, 1) := by decide +kernel
theorem dX6_valueOf_46 : decode cX6_valueOf 46 = .ok (.iload_n 1, 1) := by decide +kernel
theorem dX6_valueOf_47 : decode cX6_valueOf 47 = .ok (.invokevirtual 53, 3) := by decide +kernel
theorem dX6_valueOf_50 : decode cX6_valueOf 50 = .ok (.ireturn, 1) := by decide +kernel
theorem dX6_valueOf_51 : decode cX6_valueOf 51 = .ok (.aload_n 0, 1) := by decide +kernel
theorem dX6_valueOf_52 : decode cX6_valueOf 52 = .ok (.iload_n 1, 1) := by decide +kernel
theorem dX6_valueOf_53 : decode cX6_valueOf 53 = .ok (.invokevirtual 57, 3) := by decide +kernel
theorem dX6_valueOf_56 : decode cX6_valueOf 56 = .ok (.ireturn, 1) := by decide +kernel
theorem dX6_valueOf_57 : decode cX6_valueOf 57 = .ok (.aload_n 0, 1) := by decide +kernel
theorem dX6_valueOf_58 : decode cX6_valueOf 58 = .ok (.iload_n 1, 1) := by decide +kernel
theorem dX6_valueOf_59 : decode cX6_valueOf 59 = .ok (.invokevirtual 60, 3) := by decide +kernel
theorem dX6_valueOf_62 : decode cX6_valueOf 62 = .ok (.ifCond .eq 7, 3) := by decide +kernel
theorem dX6_valueOf_65 : decode cX6_valueOf 65 = .ok (.iconst 1, 1) := by decide +kernel
theorem dX6_valueOf_66 : decode cX6_valueOf 66 = .ok (.goto 4, 3) := by decide +kernel
theorem dX6_valueOf_69 : decode cX6_valueOf 69 = .ok (.iconst 0, 1) := by decide +kernel
theorem dX6_valueOf_70 : decode cX6_valueOf 70 = .ok (.ireturn, 1) := by decide +kernel
theorem dX6_valueOf_71 : decode cX6_valueOf 71 = .ok (.aload_n 0, 1) := by decide +kernel
theorem dX6_valueOf_72 : decode cX6_valueOf 72 = .ok (.iload_n 1, 1) := by decide +kernel
theorem dX6_valueOf_73 : decode cX6_valueOf 73 = .ok (.invokevirtual 63, 3) := by decide +kernel
theorem dX6_valueOf_76 : decode cX6_valueOf 76 = .ok (.ireturn, 1) := by decide +kernel
theorem dX6_valueOf_77 : decode cX6_valueOf 77 = .ok (.iconst (-1), 1) := by decide +kernel
theorem dX6_valueOf_78 : decode cX6_valueOf 78 = .ok (.ireturn, 1) := by decide +kernel
theorem dX6_find_0 : decode cX6_find 0 = .ok (.iconst 0, 1) := by decide +kernel
theorem dX6_find_1 : decode cX6_find 1 = .ok (.istore_n 3, 1) := by decide +kernel
theorem dX6_find_2 : decode cX6_find 2 = .ok (.iload_n 3, 1) := by decide +kernel
theorem dX6_find_3 : decode cX6_find 3 = .ok (.aload_n 0, 1) := by decide +kernel
theorem dX6_find_4 : decode cX6_find 4 = .ok (.getfield 29, 3) := by decide +kernel
theorem dX6_find_7 : decode cX6_find 7 = .ok (.if_icmp .ge 21, 3) := by decide +kernel
theorem dX6_find_10 : decode cX6_find 10 = .ok (.aload_n 0, 1) := by decide +kernel
theorem dX6_find_11 : decode cX6_find 11 = .ok (.iload_n 3, 1) := by decide +kernel
theorem dX6_find_12 : decode cX6_find 12 = .ok (.invokevirtual 45, 3) := by decide +kernel
theorem dX6_find_15 : decode cX6_find 15 = .ok (.lload_n 1, 1) := by decide +kernel
theorem dX6_find_16 : decode cX6_find 16 = .ok (.lcmp, 1) := by decide +kernel
theorem dX6_find_17 : decode cX6_find 17 = .ok (.ifCond .ne 5, 3) := by decide +kernel
theorem dX6_find_20 : decode cX6_find 20 = .ok (.iload_n 3, 1) := by decide +kernel
theorem dX6_find_21 : decode cX6_find 21 = .ok (.ireturn, 1) := by decide +kernel
theorem dX6_find_22 : decode cX6_find 22 = .ok (.iinc 3 1, 3) := by decide +kernel
theorem dX6_find_25 : decode cX6_find 25 = .ok (.goto (-23), 3) := by decide +kernel
theorem dX6_find_28 : decode cX6_find 28 = .ok (.iconst (-1), 1) := by decide +kernel
theorem dX6_find_29 : decode cX6_find 29 = .ok (.ireturn, 1) := by decide +kernel
theorem dX6_ranksBefore_0 : decode cX6_ranksBefore 0 = .ok (.aload_n 0, 1) := by decide +kernel
theorem dX6_ranksBefore_1 : decode cX6_ranksBefore 1 = .ok (.iload_n 1, 1) := by decide +kernel
theorem dX6_ranksBefore_2 : decode cX6_ranksBefore 2 = .ok (.invokevirtual 39, 3) := by decide +kernel
theorem dX6_ranksBefore_5 : decode cX6_ranksBefore 5 = .ok (.ifCond .eq 11, 3) := by decide +kernel
theorem dX6_ranksBefore_8 : decode cX6_ranksBefore 8 = .ok (.aload_n 0, 1) := by decide +kernel
theorem dX6_ranksBefore_9 : decode cX6_ranksBefore 9 = .ok (.iload_n 2, 1) := by decide +kernel
theorem dX6_ranksBefore_10 : decode cX6_ranksBefore 10 = .ok (.invokevirtual 39, 3) := by decide +kernel
theorem dX6_ranksBefore_13 : decode cX6_ranksBefore 13 = .ok (.ifCond .ne 5, 3) := by decide +kernel
theorem dX6_ranksBefore_16 : decode cX6_ranksBefore 16 = .ok (.iconst 0, 1) := by decide +kernel
theorem dX6_ranksBefore_17 : decode cX6_ranksBefore 17 = .ok (.ireturn, 1) := by decide +kernel
theorem dX6_ranksBefore_18 : decode cX6_ranksBefore 18 = .ok (.aload_n 0, 1) := by decide +kernel
theorem dX6_ranksBefore_19 : decode cX6_ranksBefore 19 = .ok (.getfield 18, 3) := by decide +kernel
theorem dX6_ranksBefore_22 : decode cX6_ranksBefore 22 = .ok (.iload_n 1, 1) := by decide +kernel
theorem dX6_ranksBefore_23 : decode cX6_ranksBefore 23 = .ok (.iaload, 1) := by decide +kernel
theorem dX6_ranksBefore_24 : decode cX6_ranksBefore 24 = .ok (.aload_n 0, 1) := by decide +kernel
theorem dX6_ranksBefore_25 : decode cX6_ranksBefore 25 = .ok (.getfield 18, 3) := by decide +kernel
theorem dX6_ranksBefore_28 : decode cX6_ranksBefore 28 = .ok (.iload_n 2, 1) := by decide +kernel
theorem dX6_ranksBefore_29 : decode cX6_ranksBefore 29 = .ok (.iaload, 1) := by decide +kernel
theorem dX6_ranksBefore_30 : decode cX6_ranksBefore 30 = .ok (.if_icmp .eq 24, 3) := by decide +kernel
theorem dX6_ranksBefore_33 : decode cX6_ranksBefore 33 = .ok (.aload_n 0, 1) := by decide +kernel
theorem dX6_ranksBefore_34 : decode cX6_ranksBefore 34 = .ok (.getfield 18, 3) := by decide +kernel
theorem dX6_ranksBefore_37 : decode cX6_ranksBefore 37 = .ok (.iload_n 1, 1) := by decide +kernel
theorem dX6_ranksBefore_38 : decode cX6_ranksBefore 38 = .ok (.iaload, 1) := by decide +kernel
theorem dX6_ranksBefore_39 : decode cX6_ranksBefore 39 = .ok (.aload_n 0, 1) := by decide +kernel
theorem dX6_ranksBefore_40 : decode cX6_ranksBefore 40 = .ok (.getfield 18, 3) := by decide +kernel
theorem dX6_ranksBefore_43 : decode cX6_ranksBefore 43 = .ok (.iload_n 2, 1) := by decide +kernel
theorem dX6_ranksBefore_44 : decode cX6_ranksBefore 44 = .ok (.iaload, 1) := by decide +kernel
theorem dX6_ranksBefore_45 : decode cX6_ranksBefore 45 = .ok (.if_icmp .le 7, 3) := by decide +kernel
theorem dX6_ranksBefore_48 : decode cX6_ranksBefore 48 = .ok (.iconst 1, 1) := by decide +kernel
theorem dX6_ranksBefore_49 : decode cX6_ranksBefore 49 = .ok (.goto 4, 3) := by decide +kernel
theorem dX6_ranksBefore_52 : decode cX6_ranksBefore 52 = .ok (.iconst 0, 1) := by decide +kernel
theorem dX6_ranksBefore_53 : decode cX6_ranksBefore 53 = .ok (.ireturn, 1) := by decide +kernel
theorem dX6_ranksBefore_54 : decode cX6_ranksBefore 54 = .ok (.aload_n 0, 1) := by decide +kernel
theorem dX6_ranksBefore_55 : decode cX6_ranksBefore 55 = .ok (.getfield 22, 3) := by decide +kernel
theorem dX6_ranksBefore_58 : decode cX6_ranksBefore 58 = .ok (.iload_n 1, 1) := by decide +kernel
theorem dX6_ranksBefore_59 : decode cX6_ranksBefore 59 = .ok (.iaload, 1) := by decide +kernel
theorem dX6_ranksBefore_60 : decode cX6_ranksBefore 60 = .ok (.aload_n 0, 1) := by decide +kernel
theorem dX6_ranksBefore_61 : decode cX6_ranksBefore 61 = .ok (.getfield 22, 3) := by decide +kernel
theorem dX6_ranksBefore_64 : decode cX6_ranksBefore 64 = .ok (.iload_n 2, 1) := by decide +kernel
theorem dX6_ranksBefore_65 : decode cX6_ranksBefore 65 = .ok (.iaload, 1) := by decide +kernel
theorem dX6_ranksBefore_66 : decode cX6_ranksBefore 66 = .ok (.if_icmp .eq 24, 3) := by decide +kernel
theorem dX6_ranksBefore_69 : decode cX6_ranksBefore 69 = .ok (.aload_n 0, 1) := by decide +kernel
theorem dX6_ranksBefore_70 : decode cX6_ranksBefore 70 = .ok (.getfield 22, 3) := by decide +kernel
theorem dX6_ranksBefore_73 : decode cX6_ranksBefore 73 = .ok (.iload_n 1, 1) := by decide +kernel
theorem dX6_ranksBefore_74 : decode cX6_ranksBefore 74 = .ok (.iaload, 1) := by decide +kernel
theorem dX6_ranksBefore_75 : decode cX6_ranksBefore 75 = .ok (.aload_n 0, 1) := by decide +kernel
theorem dX6_ranksBefore_76 : decode cX6_ranksBefore 76 = .ok (.getfield 22, 3) := by decide +kernel
theorem dX6_ranksBefore_79 : decode cX6_ranksBefore 79 = .ok (.iload_n 2, 1) := by decide +kernel
theorem dX6_ranksBefore_80 : decode cX6_ranksBefore 80 = .ok (.iaload, 1) := by decide +kernel
theorem dX6_ranksBefore_81 : decode cX6_ranksBefore 81 = .ok (.if_icmp .le 7, 3) := by decide +kernel
theorem dX6_ranksBefore_84 : decode cX6_ranksBefore 84 = .ok (.iconst 1, 1) := by decide +kernel
theorem dX6_ranksBefore_85 : decode cX6_ranksBefore 85 = .ok (.goto 4, 3) := by decide +kernel
theorem dX6_ranksBefore_88 : decode cX6_ranksBefore 88 = .ok (.iconst 0, 1) := by decide +kernel
theorem dX6_ranksBefore_89 : decode cX6_ranksBefore 89 = .ok (.ireturn, 1) := by decide +kernel
theorem dX6_ranksBefore_90 : decode cX6_ranksBefore 90 = .ok (.aload_n 0, 1) := by decide +kernel
theorem dX6_ranksBefore_91 : decode cX6_ranksBefore 91 = .ok (.getfield 9, 3) := by decide +kernel
theorem dX6_ranksBefore_94 : decode cX6_ranksBefore 94 = .ok (.iload_n 1, 1) := by decide +kernel
theorem dX6_ranksBefore_95 : decode cX6_ranksBefore 95 = .ok (.laload, 1) := by decide +kernel
theorem dX6_ranksBefore_96 : decode cX6_ranksBefore 96 = .ok (.aload_n 0, 1) := by decide +kernel
theorem dX6_ranksBefore_97 : decode cX6_ranksBefore 97 = .ok (.getfield 9, 3) := by decide +kernel
theorem dX6_ranksBefore_100 : decode cX6_ranksBefore 100 = .ok (.iload_n 2, 1) := by decide +kernel
theorem dX6_ranksBefore_101 : decode cX6_ranksBefore 101 = .ok (.laload, 1) := by decide +kernel
theorem dX6_ranksBefore_102 : decode cX6_ranksBefore 102 = .ok (.lcmp, 1) := by decide +kernel
theorem dX6_ranksBefore_103 : decode cX6_ranksBefore 103 = .ok (.ifCond .ge 7, 3) := by decide +kernel
theorem dX6_ranksBefore_106 : decode cX6_ranksBefore 106 = .ok (.iconst 1, 1) := by decide +kernel
theorem dX6_ranksBefore_107 : decode cX6_ranksBefore 107 = .ok (.goto 4, 3) := by decide +kernel
theorem dX6_ranksBefore_110 : decode cX6_ranksBefore 110 = .ok (.iconst 0, 1) := by decide +kernel
theorem dX6_ranksBefore_111 : decode cX6_ranksBefore 111 = .ok (.ireturn, 1) := by decide +kernel
theorem dX6_rankOf_0 : decode cX6_rankOf 0 = .ok (.iconst 0, 1) := by decide +kernel
theorem dX6_rankOf_1 : decode cX6_rankOf 1 = .ok (.istore_n 2, 1) := by decide +kernel
theorem dX6_rankOf_2 : decode cX6_rankOf 2 = .ok (.iconst 0, 1) := by decide +kernel
theorem dX6_rankOf_3 : decode cX6_rankOf 3 = .ok (.istore_n 3, 1) := by decide +kernel
theorem dX6_rankOf_4 : decode cX6_rankOf 4 = .ok (.iload_n 3, 1) := by decide +kernel
theorem dX6_rankOf_5 : decode cX6_rankOf 5 = .ok (.aload_n 0, 1) := by decide +kernel
theorem dX6_rankOf_6 : decode cX6_rankOf 6 = .ok (.getfield 29, 3) := by decide +kernel
theorem dX6_rankOf_9 : decode cX6_rankOf 9 = .ok (.if_icmp .ge 21, 3) := by decide +kernel
theorem dX6_rankOf_12 : decode cX6_rankOf 12 = .ok (.aload_n 0, 1) := by decide +kernel
theorem dX6_rankOf_13 : decode cX6_rankOf 13 = .ok (.iload_n 3, 1) := by decide +kernel
theorem dX6_rankOf_14 : decode cX6_rankOf 14 = .ok (.iload_n 1, 1) := by decide +kernel
theorem dX6_rankOf_15 : decode cX6_rankOf 15 = .ok (.invokevirtual 66, 3) := by decide +kernel
theorem dX6_rankOf_18 : decode cX6_rankOf 18 = .ok (.ifCond .eq 6, 3) := by decide +kernel
theorem dX6_rankOf_21 : decode cX6_rankOf 21 = .ok (.iinc 2 1, 3) := by decide +kernel
theorem dX6_rankOf_24 : decode cX6_rankOf 24 = .ok (.iinc 3 1, 3) := by decide +kernel
theorem dX6_rankOf_27 : decode cX6_rankOf 27 = .ok (.goto (-23), 3) := by decide +kernel
theorem dX6_rankOf_30 : decode cX6_rankOf 30 = .ok (.iload_n 2, 1) := by decide +kernel
theorem dX6_rankOf_31 : decode cX6_rankOf 31 = .ok (.ireturn, 1) := by decide +kernel
theorem dX6_beginsWith_0 : decode cX6_beginsWith 0 = .ok (.aload_n 0, 1) := by decide +kernel
theorem dX6_beginsWith_1 : decode cX6_beginsWith 1 = .ok (.iload_n 1, 1) := by decide +kernel
theorem dX6_beginsWith_2 : decode cX6_beginsWith 2 = .ok (.invokevirtual 45, 3) := by decide +kernel
theorem dX6_beginsWith_5 : decode cX6_beginsWith 5 = .ok (.lstore 4, 2) := by decide +kernel
theorem dX6_beginsWith_7 : decode cX6_beginsWith 7 = .ok (.aload_n 0, 1) := by decide +kernel
theorem dX6_beginsWith_8 : decode cX6_beginsWith 8 = .ok (.iload_n 1, 1) := by decide +kernel
theorem dX6_beginsWith_9 : decode cX6_beginsWith 9 = .ok (.invokevirtual 70, 3) := by decide +kernel
theorem dX6_beginsWith_12 : decode cX6_beginsWith 12 = .ok (.lstore 6, 2) := by decide +kernel
theorem dX6_beginsWith_14 : decode cX6_beginsWith 14 = .ok (.iconst 0, 1) := by decide +kernel
theorem dX6_beginsWith_15 : decode cX6_beginsWith 15 = .ok (.istore 8, 2) := by decide +kernel
theorem dX6_beginsWith_17 : decode cX6_beginsWith 17 = .ok (.iload 8, 2) := by decide +kernel
theorem dX6_beginsWith_19 : decode cX6_beginsWith 19 = .ok (.bipush 10, 2) := by decide +kernel
theorem dX6_beginsWith_21 : decode cX6_beginsWith 21 = .ok (.if_icmp .ge 50, 3) := by decide +kernel
theorem dX6_beginsWith_24 : decode cX6_beginsWith 24 = .ok (.lload_n 2, 1) := by decide +kernel
theorem dX6_beginsWith_25 : decode cX6_beginsWith 25 = .ok (.iload 8, 2) := by decide +kernel
theorem dX6_beginsWith_27 : decode cX6_beginsWith 27 = .ok (.invokestatic 73, 3) := by decide +kernel
theorem dX6_beginsWith_30 : decode cX6_beginsWith 30 = .ok (.istore 9, 2) := by decide +kernel
theorem dX6_beginsWith_32 : decode cX6_beginsWith 32 = .ok (.iload 9, 2) := by decide +kernel
theorem dX6_beginsWith_34 : decode cX6_beginsWith 34 = .ok (.ifCond .ne 5, 3) := by decide +kernel
theorem dX6_beginsWith_37 : decode cX6_beginsWith 37 = .ok (.iconst 1, 1) := by decide +kernel
theorem dX6_beginsWith_38 : decode cX6_beginsWith 38 = .ok (.ireturn, 1) := by decide +kernel
theorem dX6_beginsWith_39 : decode cX6_beginsWith 39 = .ok (.iload 9, 2) := by decide +kernel
theorem dX6_beginsWith_41 : decode cX6_beginsWith 41 = .ok (.lload 4, 2) := by decide +kernel
theorem dX6_beginsWith_43 : decode cX6_beginsWith 43 = .ok (.iload 8, 2) := by decide +kernel
theorem dX6_beginsWith_45 : decode cX6_beginsWith 45 = .ok (.invokestatic 73, 3) := by decide +kernel
theorem dX6_beginsWith_48 : decode cX6_beginsWith 48 = .ok (.if_icmp .eq 17, 3) := by decide +kernel
theorem dX6_beginsWith_51 : decode cX6_beginsWith 51 = .ok (.iload 9, 2) := by decide +kernel
theorem dX6_beginsWith_53 : decode cX6_beginsWith 53 = .ok (.lload 6, 2) := by decide +kernel
theorem dX6_beginsWith_55 : decode cX6_beginsWith 55 = .ok (.iload 8, 2) := by decide +kernel
theorem dX6_beginsWith_57 : decode cX6_beginsWith 57 = .ok (.invokestatic 73, 3) := by decide +kernel
theorem dX6_beginsWith_60 : decode cX6_beginsWith 60 = .ok (.if_icmp .eq 5, 3) := by decide +kernel
theorem dX6_beginsWith_63 : decode cX6_beginsWith 63 = .ok (.iconst 0, 1) := by decide +kernel
theorem dX6_beginsWith_64 : decode cX6_beginsWith 64 = .ok (.ireturn, 1) := by decide +kernel
theorem dX6_beginsWith_65 : decode cX6_beginsWith 65 = .ok (.iinc 8 1, 3) := by decide +kernel
theorem dX6_beginsWith_68 : decode cX6_beginsWith 68 = .ok (.goto (-51), 3) := by decide +kernel
theorem dX6_beginsWith_71 : decode cX6_beginsWith 71 = .ok (.iconst 1, 1) := by decide +kernel
theorem dX6_beginsWith_72 : decode cX6_beginsWith 72 = .ok (.ireturn, 1) := by decide +kernel
theorem dX6_insert_0 : decode cX6_insert 0 = .ok (.aload_n 0, 1) := by decide +kernel
theorem dX6_insert_1 : decode cX6_insert 1 = .ok (.invokevirtual 77, 3) := by decide +kernel
theorem dX6_insert_4 : decode cX6_insert 4 = .ok (.ifCond .eq 4, 3) := by decide +kernel
theorem dX6_insert_7 : decode cX6_insert 7 = .ok (.return_, 1) := by decide +kernel
theorem dX6_insert_8 : decode cX6_insert 8 = .ok (.aload_n 0, 1) := by decide +kernel
theorem dX6_insert_9 : decode cX6_insert 9 = .ok (.getfield 9, 3) := by decide +kernel
theorem dX6_insert_12 : decode cX6_insert 12 = .ok (.aload_n 0, 1) := by decide +kernel
theorem dX6_insert_13 : decode cX6_insert 13 = .ok (.getfield 29, 3) := by decide +kernel
theorem dX6_insert_16 : decode cX6_insert 16 = .ok (.lload_n 1, 1) := by decide +kernel
theorem dX6_insert_17 : decode cX6_insert 17 = .ok (.lastore, 1) := by decide +kernel
theorem dX6_insert_18 : decode cX6_insert 18 = .ok (.aload_n 0, 1) := by decide +kernel
theorem dX6_insert_19 : decode cX6_insert 19 = .ok (.getfield 15, 3) := by decide +kernel
theorem dX6_insert_22 : decode cX6_insert 22 = .ok (.aload_n 0, 1) := by decide +kernel
theorem dX6_insert_23 : decode cX6_insert 23 = .ok (.getfield 29, 3) := by decide +kernel
theorem dX6_insert_26 : decode cX6_insert 26 = .ok (.lload_n 1, 1) := by decide +kernel
theorem dX6_insert_27 : decode cX6_insert 27 = .ok (.invokestatic 81, 3) := by decide +kernel
theorem dX6_insert_30 : decode cX6_insert 30 = .ok (.lastore, 1) := by decide +kernel
theorem dX6_insert_31 : decode cX6_insert 31 = .ok (.aload_n 0, 1) := by decide +kernel
theorem dX6_insert_32 : decode cX6_insert 32 = .ok (.getfield 18, 3) := by decide +kernel
theorem dX6_insert_35 : decode cX6_insert 35 = .ok (.aload_n 0, 1) := by decide +kernel
theorem dX6_insert_36 : decode cX6_insert 36 = .ok (.getfield 29, 3) := by decide +kernel
theorem dX6_insert_39 : decode cX6_insert 39 = .ok (.iload_n 3, 1) := by decide +kernel
theorem dX6_insert_40 : decode cX6_insert 40 = .ok (.iastore, 1) := by decide +kernel
theorem dX6_insert_41 : decode cX6_insert 41 = .ok (.aload_n 0, 1) := by decide +kernel
theorem dX6_insert_42 : decode cX6_insert 42 = .ok (.getfield 22, 3) := by decide +kernel
theorem dX6_insert_45 : decode cX6_insert 45 = .ok (.aload_n 0, 1) := by decide +kernel
theorem dX6_insert_46 : decode cX6_insert 46 = .ok (.getfield 29, 3) := by decide +kernel
theorem dX6_insert_49 : decode cX6_insert 49 = .ok (.iload 4, 2) := by decide +kernel
theorem dX6_insert_51 : decode cX6_insert 51 = .ok (.iastore, 1) := by decide +kernel
theorem dX6_insert_52 : decode cX6_insert 52 = .ok (.aload_n 0, 1) := by decide +kernel
theorem dX6_insert_53 : decode cX6_insert 53 = .ok (.getfield 25, 3) := by decide +kernel
theorem dX6_insert_56 : decode cX6_insert 56 = .ok (.aload_n 0, 1) := by decide +kernel
theorem dX6_insert_57 : decode cX6_insert 57 = .ok (.getfield 29, 3) := by decide +kernel
theorem dX6_insert_60 : decode cX6_insert 60 = .ok (.iload 5, 2) := by decide +kernel
theorem dX6_insert_62 : decode cX6_insert 62 = .ok (.bastore, 1) := by decide +kernel
theorem dX6_insert_63 : decode cX6_insert 63 = .ok (.aload_n 0, 1) := by decide +kernel
theorem dX6_insert_64 : decode cX6_insert 64 = .ok (.dup, 1) := by decide +kernel
theorem dX6_insert_65 : decode cX6_insert 65 = .ok (.getfield 29, 3) := by decide +kernel
theorem dX6_insert_68 : decode cX6_insert 68 = .ok (.iconst 1, 1) := by decide +kernel
theorem dX6_insert_69 : decode cX6_insert 69 = .ok (.iadd, 1) := by decide +kernel
theorem dX6_insert_70 : decode cX6_insert 70 = .ok (.putfield 29, 3) := by decide +kernel
theorem dX6_insert_73 : decode cX6_insert 73 = .ok (.return_, 1) := by decide +kernel
theorem dX6_remove_0 : decode cX6_remove 0 = .ok (.aload_n 0, 1) := by decide +kernel
theorem dX6_remove_1 : decode cX6_remove 1 = .ok (.iload_n 1, 1) := by decide +kernel
theorem dX6_remove_2 : decode cX6_remove 2 = .ok (.invokevirtual 39, 3) := by decide +kernel
theorem dX6_remove_5 : decode cX6_remove 5 = .ok (.ifCond .ne 4, 3) := by decide +kernel
theorem dX6_remove_8 : decode cX6_remove 8 = .ok (.return_, 1) := by decide +kernel
theorem dX6_remove_9 : decode cX6_remove 9 = .ok (.iload_n 1, 1) := by decide +kernel
theorem dX6_remove_10 : decode cX6_remove 10 = .ok (.iconst 1, 1) := by decide +kernel
theorem dX6_remove_11 : decode cX6_remove 11 = .ok (.iadd, 1) := by decide +kernel
theorem dX6_remove_12 : decode cX6_remove 12 = .ok (.istore_n 2, 1) := by decide +kernel
theorem dX6_remove_13 : decode cX6_remove 13 = .ok (.iload_n 2, 1) := by decide +kernel
theorem dX6_remove_14 : decode cX6_remove 14 = .ok (.aload_n 0, 1) := by decide +kernel
theorem dX6_remove_15 : decode cX6_remove 15 = .ok (.getfield 29, 3) := by decide +kernel
theorem dX6_remove_18 : decode cX6_remove 18 = .ok (.if_icmp .ge 73, 3) := by decide +kernel
theorem dX6_remove_21 : decode cX6_remove 21 = .ok (.iload_n 2, 1) := by decide +kernel
theorem dX6_remove_22 : decode cX6_remove 22 = .ok (.iconst 1, 1) := by decide +kernel
theorem dX6_remove_23 : decode cX6_remove 23 = .ok (.isub, 1) := by decide +kernel
theorem dX6_remove_24 : decode cX6_remove 24 = .ok (.istore_n 3, 1) := by decide +kernel
theorem dX6_remove_25 : decode cX6_remove 25 = .ok (.aload_n 0, 1) := by decide +kernel
theorem dX6_remove_26 : decode cX6_remove 26 = .ok (.getfield 9, 3) := by decide +kernel
theorem dX6_remove_29 : decode cX6_remove 29 = .ok (.iload_n 3, 1) := by decide +kernel
theorem dX6_remove_30 : decode cX6_remove 30 = .ok (.aload_n 0, 1) := by decide +kernel
theorem dX6_remove_31 : decode cX6_remove 31 = .ok (.getfield 9, 3) := by decide +kernel
theorem dX6_remove_34 : decode cX6_remove 34 = .ok (.iload_n 2, 1) := by decide +kernel
theorem dX6_remove_35 : decode cX6_remove 35 = .ok (.laload, 1) := by decide +kernel
theorem dX6_remove_36 : decode cX6_remove 36 = .ok (.lastore, 1) := by decide +kernel
theorem dX6_remove_37 : decode cX6_remove 37 = .ok (.aload_n 0, 1) := by decide +kernel
theorem dX6_remove_38 : decode cX6_remove 38 = .ok (.getfield 15, 3) := by decide +kernel
theorem dX6_remove_41 : decode cX6_remove 41 = .ok (.iload_n 3, 1) := by decide +kernel
theorem dX6_remove_42 : decode cX6_remove 42 = .ok (.aload_n 0, 1) := by decide +kernel
theorem dX6_remove_43 : decode cX6_remove 43 = .ok (.getfield 15, 3) := by decide +kernel
theorem dX6_remove_46 : decode cX6_remove 46 = .ok (.iload_n 2, 1) := by decide +kernel
theorem dX6_remove_47 : decode cX6_remove 47 = .ok (.laload, 1) := by decide +kernel
theorem dX6_remove_48 : decode cX6_remove 48 = .ok (.lastore, 1) := by decide +kernel
theorem dX6_remove_49 : decode cX6_remove 49 = .ok (.aload_n 0, 1) := by decide +kernel
theorem dX6_remove_50 : decode cX6_remove 50 = .ok (.getfield 18, 3) := by decide +kernel
theorem dX6_remove_53 : decode cX6_remove 53 = .ok (.iload_n 3, 1) := by decide +kernel
theorem dX6_remove_54 : decode cX6_remove 54 = .ok (.aload_n 0, 1) := by decide +kernel
theorem dX6_remove_55 : decode cX6_remove 55 = .ok (.getfield 18, 3) := by decide +kernel
theorem dX6_remove_58 : decode cX6_remove 58 = .ok (.iload_n 2, 1) := by decide +kernel
theorem dX6_remove_59 : decode cX6_remove 59 = .ok (.iaload, 1) := by decide +kernel
theorem dX6_remove_60 : decode cX6_remove 60 = .ok (.iastore, 1) := by decide +kernel
theorem dX6_remove_61 : decode cX6_remove 61 = .ok (.aload_n 0, 1) := by decide +kernel
theorem dX6_remove_62 : decode cX6_remove 62 = .ok (.getfield 22, 3) := by decide +kernel
theorem dX6_remove_65 : decode cX6_remove 65 = .ok (.iload_n 3, 1) := by decide +kernel
theorem dX6_remove_66 : decode cX6_remove 66 = .ok (.aload_n 0, 1) := by decide +kernel
theorem dX6_remove_67 : decode cX6_remove 67 = .ok (.getfield 22, 3) := by decide +kernel
theorem dX6_remove_70 : decode cX6_remove 70 = .ok (.iload_n 2, 1) := by decide +kernel
theorem dX6_remove_71 : decode cX6_remove 71 = .ok (.iaload, 1) := by decide +kernel
theorem dX6_remove_72 : decode cX6_remove 72 = .ok (.iastore, 1) := by decide +kernel
theorem dX6_remove_73 : decode cX6_remove 73 = .ok (.aload_n 0, 1) := by decide +kernel
theorem dX6_remove_74 : decode cX6_remove 74 = .ok (.getfield 25, 3) := by decide +kernel
theorem dX6_remove_77 : decode cX6_remove 77 = .ok (.iload_n 3, 1) := by decide +kernel
theorem dX6_remove_78 : decode cX6_remove 78 = .ok (.aload_n 0, 1) := by decide +kernel
theorem dX6_remove_79 : decode cX6_remove 79 = .ok (.getfield 25, 3) := by decide +kernel
theorem dX6_remove_82 : decode cX6_remove 82 = .ok (.iload_n 2, 1) := by decide +kernel
theorem dX6_remove_83 : decode cX6_remove 83 = .ok (.baload, 1) := by decide +kernel
theorem dX6_remove_84 : decode cX6_remove 84 = .ok (.bastore, 1) := by decide +kernel
theorem dX6_remove_85 : decode cX6_remove 85 = .ok (.iinc 2 1, 3) := by decide +kernel
theorem dX6_remove_88 : decode cX6_remove 88 = .ok (.goto (-75), 3) := by decide +kernel
theorem dX6_remove_91 : decode cX6_remove 91 = .ok (.aload_n 0, 1) := by decide +kernel
theorem dX6_remove_92 : decode cX6_remove 92 = .ok (.dup, 1) := by decide +kernel
theorem dX6_remove_93 : decode cX6_remove 93 = .ok (.getfield 29, 3) := by decide +kernel
theorem dX6_remove_96 : decode cX6_remove 96 = .ok (.iconst 1, 1) := by decide +kernel
theorem dX6_remove_97 : decode cX6_remove 97 = .ok (.isub, 1) := by decide +kernel
theorem dX6_remove_98 : decode cX6_remove 98 = .ok (.putfield 29, 3) := by decide +kernel
theorem dX6_remove_101 : decode cX6_remove 101 = .ok (.return_, 1) := by decide +kernel
theorem dX6_countUse_0 : decode cX6_countUse 0 = .ok (.aload_n 0, 1) := by decide +kernel
theorem dX6_countUse_1 : decode cX6_countUse 1 = .ok (.lload_n 1, 1) := by decide +kernel
theorem dX6_countUse_2 : decode cX6_countUse 2 = .ok (.invokevirtual 85, 3) := by decide +kernel
theorem dX6_countUse_5 : decode cX6_countUse 5 = .ok (.istore 4, 2) := by decide +kernel
theorem dX6_countUse_7 : decode cX6_countUse 7 = .ok (.aload_n 0, 1) := by decide +kernel
theorem dX6_countUse_8 : decode cX6_countUse 8 = .ok (.iload 4, 2) := by decide +kernel
theorem dX6_countUse_10 : decode cX6_countUse 10 = .ok (.invokevirtual 39, 3) := by decide +kernel
theorem dX6_countUse_13 : decode cX6_countUse 13 = .ok (.ifCond .eq 34, 3) := by decide +kernel
theorem dX6_countUse_16 : decode cX6_countUse 16 = .ok (.aload_n 0, 1) := by decide +kernel
theorem dX6_countUse_17 : decode cX6_countUse 17 = .ok (.getfield 18, 3) := by decide +kernel
theorem dX6_countUse_20 : decode cX6_countUse 20 = .ok (.iload 4, 2) := by decide +kernel
theorem dX6_countUse_22 : decode cX6_countUse 22 = .ok (.aload_n 0, 1) := by decide +kernel
theorem dX6_countUse_23 : decode cX6_countUse 23 = .ok (.getfield 18, 3) := by decide +kernel
theorem dX6_countUse_26 : decode cX6_countUse 26 = .ok (.iload 4, 2) := by decide +kernel
theorem dX6_countUse_28 : decode cX6_countUse 28 = .ok (.iaload, 1) := by decide +kernel
theorem dX6_countUse_29 : decode cX6_countUse 29 = .ok (.iconst 1, 1) := by decide +kernel
theorem dX6_countUse_30 : decode cX6_countUse 30 = .ok (.iadd, 1) := by decide +kernel
theorem dX6_countUse_31 : decode cX6_countUse 31 = .ok (.sipush 999, 3) := by decide +kernel
theorem dX6_countUse_34 : decode cX6_countUse 34 = .ok (.invokestatic 88, 3) := by decide +kernel
theorem dX6_countUse_37 : decode cX6_countUse 37 = .ok (.iastore, 1) := by decide +kernel
theorem dX6_countUse_38 : decode cX6_countUse 38 = .ok (.aload_n 0, 1) := by decide +kernel
theorem dX6_countUse_39 : decode cX6_countUse 39 = .ok (.getfield 22, 3) := by decide +kernel
theorem dX6_countUse_42 : decode cX6_countUse 42 = .ok (.iload 4, 2) := by decide +kernel
theorem dX6_countUse_44 : decode cX6_countUse 44 = .ok (.iload_n 3, 1) := by decide +kernel
theorem dX6_countUse_45 : decode cX6_countUse 45 = .ok (.iastore, 1) := by decide +kernel
theorem dX6_countUse_46 : decode cX6_countUse 46 = .ok (.return_, 1) := by decide +kernel
theorem dX6_countUse_47 : decode cX6_countUse 47 = .ok (.aload_n 0, 1) := by decide +kernel
theorem dX6_countUse_48 : decode cX6_countUse 48 = .ok (.invokevirtual 77, 3) := by decide +kernel
theorem dX6_countUse_51 : decode cX6_countUse 51 = .ok (.ifCond .eq 11, 3) := by decide +kernel
theorem dX6_countUse_54 : decode cX6_countUse 54 = .ok (.aload_n 0, 1) := by decide +kernel
theorem dX6_countUse_55 : decode cX6_countUse 55 = .ok (.aload_n 0, 1) := by decide +kernel
theorem dX6_countUse_56 : decode cX6_countUse 56 = .ok (.invokevirtual 94, 3) := by decide +kernel
theorem dX6_countUse_59 : decode cX6_countUse 59 = .ok (.invokevirtual 98, 3) := by decide +kernel
theorem dX6_countUse_62 : decode cX6_countUse 62 = .ok (.aload_n 0, 1) := by decide +kernel
theorem dX6_countUse_63 : decode cX6_countUse 63 = .ok (.lload_n 1, 1) := by decide +kernel
theorem dX6_countUse_64 : decode cX6_countUse 64 = .ok (.iconst 1, 1) := by decide +kernel
theorem dX6_countUse_65 : decode cX6_countUse 65 = .ok (.iload_n 3, 1) := by decide +kernel
theorem dX6_countUse_66 : decode cX6_countUse 66 = .ok (.iconst 1, 1) := by decide +kernel
theorem dX6_countUse_67 : decode cX6_countUse 67 = .ok (.invokevirtual 102, 3) := by decide +kernel
theorem dX6_countUse_70 : decode cX6_countUse 70 = .ok (.return_, 1) := by decide +kernel
theorem dX6_lastAdded_0 : decode cX6_lastAdded 0 = .ok (.iconst (-1), 1) := by decide +kernel
theorem dX6_lastAdded_1 : decode cX6_lastAdded 1 = .ok (.istore_n 1, 1) := by decide +kernel
theorem dX6_lastAdded_2 : decode cX6_lastAdded 2 = .ok (.iconst 0, 1) := by decide +kernel
theorem dX6_lastAdded_3 : decode cX6_lastAdded 3 = .ok (.istore_n 2, 1) := by decide +kernel
theorem dX6_lastAdded_4 : decode cX6_lastAdded 4 = .ok (.iload_n 2, 1) := by decide +kernel
theorem dX6_lastAdded_5 : decode cX6_lastAdded 5 = .ok (.aload_n 0, 1) := by decide +kernel
theorem dX6_lastAdded_6 : decode cX6_lastAdded 6 = .ok (.getfield 29, 3) := by decide +kernel
theorem dX6_lastAdded_9 : decode cX6_lastAdded 9 = .ok (.if_icmp .ge 33, 3) := by decide +kernel
theorem dX6_lastAdded_12 : decode cX6_lastAdded 12 = .ok (.aload_n 0, 1) := by decide +kernel
theorem dX6_lastAdded_13 : decode cX6_lastAdded 13 = .ok (.iload_n 2, 1) := by decide +kernel
theorem dX6_lastAdded_14 : decode cX6_lastAdded 14 = .ok (.invokevirtual 60, 3) := by decide +kernel
theorem dX6_lastAdded_17 : decode cX6_lastAdded 17 = .ok (.ifCond .eq 19, 3) := by decide +kernel
theorem dX6_lastAdded_20 : decode cX6_lastAdded 20 = .ok (.iload_n 1, 1) := by decide +kernel
theorem dX6_lastAdded_21 : decode cX6_lastAdded 21 = .ok (.iconst (-1), 1) := by decide +kernel
theorem dX6_lastAdded_22 : decode cX6_lastAdded 22 = .ok (.if_icmp .eq 12, 3) := by decide +kernel
theorem dX6_lastAdded_25 : decode cX6_lastAdded 25 = .ok (.aload_n 0, 1) := by decide +kernel
theorem dX6_lastAdded_26 : decode cX6_lastAdded 26 = .ok (.iload_n 1, 1) := by decide +kernel
theorem dX6_lastAdded_27 : decode cX6_lastAdded 27 = .ok (.iload_n 2, 1) := by decide +kernel
theorem dX6_lastAdded_28 : decode cX6_lastAdded 28 = .ok (.invokevirtual 66, 3) := by decide +kernel
theorem dX6_lastAdded_31 : decode cX6_lastAdded 31 = .ok (.ifCond .eq 5, 3) := by decide +kernel
theorem dX6_lastAdded_34 : decode cX6_lastAdded 34 = .ok (.iload_n 2, 1) := by decide +kernel
theorem dX6_lastAdded_35 : decode cX6_lastAdded 35 = .ok (.istore_n 1, 1) := by decide +kernel
theorem dX6_lastAdded_36 : decode cX6_lastAdded 36 = .ok (.iinc 2 1, 3) := by decide +kernel
theorem dX6_lastAdded_39 : decode cX6_lastAdded 39 = .ok (.goto (-35), 3) := by decide +kernel
theorem dX6_lastAdded_42 : decode cX6_lastAdded 42 = .ok (.iload_n 1, 1) := by decide +kernel
theorem dX6_lastAdded_43 : decode cX6_lastAdded 43 = .ok (.ireturn, 1) := by decide +kernel
theorem dX6_ageAllBut_0 : decode cX6_ageAllBut 0 = .ok (.aload_n 0, 1) := by decide +kernel
theorem dX6_ageAllBut_1 : decode cX6_ageAllBut 1 = .ok (.getfield 29, 3) := by decide +kernel
theorem dX6_ageAllBut_4 : decode cX6_ageAllBut 4 = .ok (.iconst 1, 1) := by decide +kernel
theorem dX6_ageAllBut_5 : decode cX6_ageAllBut 5 = .ok (.isub, 1) := by decide +kernel
theorem dX6_ageAllBut_6 : decode cX6_ageAllBut 6 = .ok (.istore_n 3, 1) := by decide +kernel
theorem dX6_ageAllBut_7 : decode cX6_ageAllBut 7 = .ok (.iload_n 3, 1) := by decide +kernel
theorem dX6_ageAllBut_8 : decode cX6_ageAllBut 8 = .ok (.ifCond .lt 51, 3) := by decide +kernel
theorem dX6_ageAllBut_11 : decode cX6_ageAllBut 11 = .ok (.aload_n 0, 1) := by decide +kernel
theorem dX6_ageAllBut_12 : decode cX6_ageAllBut 12 = .ok (.iload_n 3, 1) := by decide +kernel
theorem dX6_ageAllBut_13 : decode cX6_ageAllBut 13 = .ok (.invokevirtual 60, 3) := by decide +kernel
theorem dX6_ageAllBut_16 : decode cX6_ageAllBut 16 = .ok (.ifCond .eq 37, 3) := by decide +kernel
theorem dX6_ageAllBut_19 : decode cX6_ageAllBut 19 = .ok (.aload_n 0, 1) := by decide +kernel
theorem dX6_ageAllBut_20 : decode cX6_ageAllBut 20 = .ok (.iload_n 3, 1) := by decide +kernel
theorem dX6_ageAllBut_21 : decode cX6_ageAllBut 21 = .ok (.invokevirtual 45, 3) := by decide +kernel
theorem dX6_ageAllBut_24 : decode cX6_ageAllBut 24 = .ok (.lload_n 1, 1) := by decide +kernel
theorem dX6_ageAllBut_25 : decode cX6_ageAllBut 25 = .ok (.lcmp, 1) := by decide +kernel
theorem dX6_ageAllBut_26 : decode cX6_ageAllBut 26 = .ok (.ifCond .eq 27, 3) := by decide +kernel
theorem dX6_ageAllBut_29 : decode cX6_ageAllBut 29 = .ok (.aload_n 0, 1) := by decide +kernel
theorem dX6_ageAllBut_30 : decode cX6_ageAllBut 30 = .ok (.getfield 18, 3) := by decide +kernel
theorem dX6_ageAllBut_33 : decode cX6_ageAllBut 33 = .ok (.iload_n 3, 1) := by decide +kernel
theorem dX6_ageAllBut_34 : decode cX6_ageAllBut 34 = .ok (.dup2, 1) := by decide +kernel
theorem dX6_ageAllBut_35 : decode cX6_ageAllBut 35 = .ok (.iaload, 1) := by decide +kernel
theorem dX6_ageAllBut_36 : decode cX6_ageAllBut 36 = .ok (.iconst 1, 1) := by decide +kernel
theorem dX6_ageAllBut_37 : decode cX6_ageAllBut 37 = .ok (.isub, 1) := by decide +kernel
theorem dX6_ageAllBut_38 : decode cX6_ageAllBut 38 = .ok (.iastore, 1) := by decide +kernel
theorem dX6_ageAllBut_39 : decode cX6_ageAllBut 39 = .ok (.aload_n 0, 1) := by decide +kernel
theorem dX6_ageAllBut_40 : decode cX6_ageAllBut 40 = .ok (.getfield 18, 3) := by decide +kernel
theorem dX6_ageAllBut_43 : decode cX6_ageAllBut 43 = .ok (.iload_n 3, 1) := by decide +kernel
theorem dX6_ageAllBut_44 : decode cX6_ageAllBut 44 = .ok (.iaload, 1) := by decide +kernel
theorem dX6_ageAllBut_45 : decode cX6_ageAllBut 45 = .ok (.ifCond .gt 8, 3) := by decide +kernel
theorem dX6_ageAllBut_48 : decode cX6_ageAllBut 48 = .ok (.aload_n 0, 1) := by decide +kernel
theorem dX6_ageAllBut_49 : decode cX6_ageAllBut 49 = .ok (.iload_n 3, 1) := by decide +kernel
theorem dX6_ageAllBut_50 : decode cX6_ageAllBut 50 = .ok (.invokevirtual 98, 3) := by decide +kernel
theorem dX6_ageAllBut_53 : decode cX6_ageAllBut 53 = .ok (.iinc 3 (-1), 3) := by decide +kernel
theorem dX6_ageAllBut_56 : decode cX6_ageAllBut 56 = .ok (.goto (-49), 3) := by decide +kernel
theorem dX6_ageAllBut_59 : decode cX6_ageAllBut 59 = .ok (.return_, 1) := by decide +kernel
theorem dX6_stepsTo_0 : decode cX6_stepsTo 0 = .ok (.iconst 0, 1) := by decide +kernel
theorem dX6_stepsTo_1 : decode cX6_stepsTo 1 = .ok (.istore_n 2, 1) := by decide +kernel
theorem dX6_stepsTo_2 : decode cX6_stepsTo 2 = .ok (.iconst 0, 1) := by decide +kernel
theorem dX6_stepsTo_3 : decode cX6_stepsTo 3 = .ok (.istore_n 3, 1) := by decide +kernel
theorem dX6_stepsTo_4 : decode cX6_stepsTo 4 = .ok (.iload_n 3, 1) := by decide +kernel
theorem dX6_stepsTo_5 : decode cX6_stepsTo 5 = .ok (.aload_n 0, 1) := by decide +kernel
theorem dX6_stepsTo_6 : decode cX6_stepsTo 6 = .ok (.getfield 29, 3) := by decide +kernel
theorem dX6_stepsTo_9 : decode cX6_stepsTo 9 = .ok (.if_icmp .ge 35, 3) := by decide +kernel
theorem dX6_stepsTo_12 : decode cX6_stepsTo 12 = .ok (.aload_n 0, 1) := by decide +kernel
theorem dX6_stepsTo_13 : decode cX6_stepsTo 13 = .ok (.iload_n 3, 1) := by decide +kernel
theorem dX6_stepsTo_14 : decode cX6_stepsTo 14 = .ok (.invokevirtual 70, 3) := by decide +kernel
theorem dX6_stepsTo_17 : decode cX6_stepsTo 17 = .ok (.aload_n 0, 1) := by decide +kernel
theorem dX6_stepsTo_18 : decode cX6_stepsTo 18 = .ok (.iload_n 1, 1) := by decide +kernel
theorem dX6_stepsTo_19 : decode cX6_stepsTo 19 = .ok (.invokevirtual 70, 3) := by decide +kernel
theorem dX6_stepsTo_22 : decode cX6_stepsTo 22 = .ok (.lcmp, 1) := by decide +kernel
theorem dX6_stepsTo_23 : decode cX6_stepsTo 23 = .ok (.ifCond .ne 15, 3) := by decide +kernel
theorem dX6_stepsTo_26 : decode cX6_stepsTo 26 = .ok (.aload_n 0, 1) := by decide +kernel
theorem dX6_stepsTo_27 : decode cX6_stepsTo 27 = .ok (.iload_n 3, 1) := by decide +kernel
theorem dX6_stepsTo_28 : decode cX6_stepsTo 28 = .ok (.iload_n 1, 1) := by decide +kernel
theorem dX6_stepsTo_29 : decode cX6_stepsTo 29 = .ok (.invokevirtual 66, 3) := by decide +kernel
theorem dX6_stepsTo_32 : decode cX6_stepsTo 32 = .ok (.ifCond .eq 6, 3) := by decide +kernel
theorem dX6_stepsTo_35 : decode cX6_stepsTo 35 = .ok (.iinc 2 1, 3) := by decide +kernel
theorem dX6_stepsTo_38 : decode cX6_stepsTo 38 = .ok (.iinc 3 1, 3) := by decide +kernel
theorem dX6_stepsTo_41 : decode cX6_stepsTo 41 = .ok (.goto (-37), 3) := by decide +kernel
theorem dX6_stepsTo_44 : decode cX6_stepsTo 44 = .ok (.iload_n 2, 1) := by decide +kernel
theorem dX6_stepsTo_45 : decode cX6_stepsTo 45 = .ok (.ireturn, 1) := by decide +kernel
theorem dX6_guessesFor_0 : decode cX6_guessesFor 0 = .ok (.aload_n 0, 1) := by decide +kernel
theorem dX6_guessesFor_1 : decode cX6_guessesFor 1 = .ok (.iload_n 1, 1) := by decide +kernel
theorem dX6_guessesFor_2 : decode cX6_guessesFor 2 = .ok (.invokevirtual 45, 3) := by decide +kernel
theorem dX6_guessesFor_5 : decode cX6_guessesFor 5 = .ok (.invokestatic 49, 3) := by decide +kernel
theorem dX6_guessesFor_8 : decode cX6_guessesFor 8 = .ok (.aload_n 0, 1) := by decide +kernel
theorem dX6_guessesFor_9 : decode cX6_guessesFor 9 = .ok (.iload_n 1, 1) := by decide +kernel
theorem dX6_guessesFor_10 : decode cX6_guessesFor 10 = .ok (.invokevirtual 106, 3) := by decide +kernel
theorem dX6_guessesFor_13 : decode cX6_guessesFor 13 = .ok (.iadd, 1) := by decide +kernel
theorem dX6_guessesFor_14 : decode cX6_guessesFor 14 = .ok (.ireturn, 1) := by decide +kernel
theorem dX6_tapsFor_0 : decode cX6_tapsFor 0 = .ok (.aload_n 0, 1) := by decide +kernel
theorem dX6_tapsFor_1 : decode cX6_tapsFor 1 = .ok (.iload_n 1, 1) := by decide +kernel
theorem dX6_tapsFor_2 : decode cX6_tapsFor 2 = .ok (.invokevirtual 45, 3) := by decide +kernel
theorem dX6_tapsFor_5 : decode cX6_tapsFor 5 = .ok (.lstore_n 2, 1) := by decide +kernel
theorem dX6_tapsFor_6 : decode cX6_tapsFor 6 = .ok (.aload_n 0, 1) := by decide +kernel
theorem dX6_tapsFor_7 : decode cX6_tapsFor 7 = .ok (.iload_n 1, 1) := by decide +kernel
theorem dX6_tapsFor_8 : decode cX6_tapsFor 8 = .ok (.invokevirtual 70, 3) := by decide +kernel
theorem dX6_tapsFor_11 : decode cX6_tapsFor 11 = .ok (.lstore 4, 2) := by decide +kernel
theorem dX6_tapsFor_13 : decode cX6_tapsFor 13 = .ok (.lload_n 2, 1) := by decide +kernel
theorem dX6_tapsFor_14 : decode cX6_tapsFor 14 = .ok (.invokestatic 49, 3) := by decide +kernel
theorem dX6_tapsFor_17 : decode cX6_tapsFor 17 = .ok (.istore 6, 2) := by decide +kernel
theorem dX6_tapsFor_19 : decode cX6_tapsFor 19 = .ok (.iconst 0, 1) := by decide +kernel
theorem dX6_tapsFor_20 : decode cX6_tapsFor 20 = .ok (.istore 7, 2) := by decide +kernel
theorem dX6_tapsFor_22 : decode cX6_tapsFor 22 = .ok (.iconst 0, 1) := by decide +kernel
theorem dX6_tapsFor_23 : decode cX6_tapsFor 23 = .ok (.istore 8, 2) := by decide +kernel
theorem dX6_tapsFor_25 : decode cX6_tapsFor 25 = .ok (.iload 8, 2) := by decide +kernel
theorem dX6_tapsFor_27 : decode cX6_tapsFor 27 = .ok (.iload 6, 2) := by decide +kernel
theorem dX6_tapsFor_29 : decode cX6_tapsFor 29 = .ok (.if_icmp .ge 50, 3) := by decide +kernel
theorem dX6_tapsFor_32 : decode cX6_tapsFor 32 = .ok (.iload 7, 2) := by decide +kernel
theorem dX6_tapsFor_34 : decode cX6_tapsFor 34 = .ok (.lload_n 2, 1) := by decide +kernel
theorem dX6_tapsFor_35 : decode cX6_tapsFor 35 = .ok (.iload 8, 2) := by decide +kernel
theorem dX6_tapsFor_37 : decode cX6_tapsFor 37 = .ok (.invokestatic 109, 3) := by decide +kernel
theorem dX6_tapsFor_40 : decode cX6_tapsFor 40 = .ok (.invokestatic 112, 3) := by decide +kernel
theorem dX6_tapsFor_43 : decode cX6_tapsFor 43 = .ok (.iadd, 1) := by decide +kernel
theorem dX6_tapsFor_44 : decode cX6_tapsFor 44 = .ok (.istore 7, 2) := by decide +kernel
theorem dX6_tapsFor_46 : decode cX6_tapsFor 46 = .ok (.iload 8, 2) := by decide +kernel
theorem dX6_tapsFor_48 : decode cX6_tapsFor 48 = .ok (.ifCond .le 25, 3) := by decide +kernel
theorem dX6_tapsFor_51 : decode cX6_tapsFor 51 = .ok (.lload 4, 2) := by decide +kernel
theorem dX6_tapsFor_53 : decode cX6_tapsFor 53 = .ok (.iload 8, 2) := by decide +kernel
theorem dX6_tapsFor_55 : decode cX6_tapsFor 55 = .ok (.invokestatic 73, 3) := by decide +kernel
theorem dX6_tapsFor_58 : decode cX6_tapsFor 58 = .ok (.lload 4, 2) := by decide +kernel
theorem dX6_tapsFor_60 : decode cX6_tapsFor 60 = .ok (.iload 8, 2) := by decide +kernel
theorem dX6_tapsFor_62 : decode cX6_tapsFor 62 = .ok (.iconst 1, 1) := by decide +kernel
theorem dX6_tapsFor_63 : decode cX6_tapsFor 63 = .ok (.isub, 1) := by decide +kernel
theorem dX6_tapsFor_64 : decode cX6_tapsFor 64 = .ok (.invokestatic 73, 3) := by decide +kernel
theorem dX6_tapsFor_67 : decode cX6_tapsFor 67 = .ok (.if_icmp .ne 6, 3) := by decide +kernel
theorem dX6_tapsFor_70 : decode cX6_tapsFor 70 = .ok (.iinc 7 1, 3) := by decide +kernel
theorem dX6_tapsFor_73 : decode cX6_tapsFor 73 = .ok (.iinc 8 1, 3) := by decide +kernel
theorem dX6_tapsFor_76 : decode cX6_tapsFor 76 = .ok (.goto (-51), 3) := by decide +kernel
theorem dX6_tapsFor_79 : decode cX6_tapsFor 79 = .ok (.iload 7, 2) := by decide +kernel
theorem dX6_tapsFor_81 : decode cX6_tapsFor 81 = .ok (.ireturn, 1) := by decide +kernel
theorem dX6_clashes_0 : decode cX6_clashes 0 = .ok (.iconst 0, 1) := by decide +kernel
theorem dX6_clashes_1 : decode cX6_clashes 1 = .ok (.istore_n 1, 1) := by decide +kernel
theorem dX6_clashes_2 : decode cX6_clashes 2 = .ok (.iconst 0, 1) := by decide +kernel
theorem dX6_clashes_3 : decode cX6_clashes 3 = .ok (.istore_n 2, 1) := by decide +kernel
theorem dX6_clashes_4 : decode cX6_clashes 4 = .ok (.iload_n 2, 1) := by decide +kernel
theorem dX6_clashes_5 : decode cX6_clashes 5 = .ok (.aload_n 0, 1) := by decide +kernel
theorem dX6_clashes_6 : decode cX6_clashes 6 = .ok (.getfield 29, 3) := by decide +kernel
theorem dX6_clashes_9 : decode cX6_clashes 9 = .ok (.if_icmp .ge 20, 3) := by decide +kernel
theorem dX6_clashes_12 : decode cX6_clashes 12 = .ok (.aload_n 0, 1) := by decide +kernel
theorem dX6_clashes_13 : decode cX6_clashes 13 = .ok (.iload_n 2, 1) := by decide +kernel
theorem dX6_clashes_14 : decode cX6_clashes 14 = .ok (.invokevirtual 117, 3) := by decide +kernel
theorem dX6_clashes_17 : decode cX6_clashes 17 = .ok (.ifCond .eq 6, 3) := by decide +kernel
theorem dX6_clashes_20 : decode cX6_clashes 20 = .ok (.iinc 1 1, 3) := by decide +kernel
theorem dX6_clashes_23 : decode cX6_clashes 23 = .ok (.iinc 2 1, 3) := by decide +kernel
theorem dX6_clashes_26 : decode cX6_clashes 26 = .ok (.goto (-22), 3) := by decide +kernel
theorem dX6_clashes_29 : decode cX6_clashes 29 = .ok (.iload_n 1, 1) := by decide +kernel
theorem dX6_clashes_30 : decode cX6_clashes 30 = .ok (.ireturn, 1) := by decide +kernel
theorem dX6_sharesKeys_0 : decode cX6_sharesKeys 0 = .ok (.iconst 0, 1) := by decide +kernel
theorem dX6_sharesKeys_1 : decode cX6_sharesKeys 1 = .ok (.istore_n 2, 1) := by decide +kernel
theorem dX6_sharesKeys_2 : decode cX6_sharesKeys 2 = .ok (.iload_n 2, 1) := by decide +kernel
theorem dX6_sharesKeys_3 : decode cX6_sharesKeys 3 = .ok (.aload_n 0, 1) := by decide +kernel
theorem dX6_sharesKeys_4 : decode cX6_sharesKeys 4 = .ok (.getfield 29, 3) := by decide +kernel
theorem dX6_sharesKeys_7 : decode cX6_sharesKeys 7 = .ok (.if_icmp .ge 30, 3) := by decide +kernel
theorem dX6_sharesKeys_10 : decode cX6_sharesKeys 10 = .ok (.iload_n 2, 1) := by decide +kernel
theorem dX6_sharesKeys_11 : decode cX6_sharesKeys 11 = .ok (.iload_n 1, 1) := by decide +kernel
theorem dX6_sharesKeys_12 : decode cX6_sharesKeys 12 = .ok (.if_icmp .eq 19, 3) := by decide +kernel
theorem dX6_sharesKeys_15 : decode cX6_sharesKeys 15 = .ok (.aload_n 0, 1) := by decide +kernel
theorem dX6_sharesKeys_16 : decode cX6_sharesKeys 16 = .ok (.iload_n 2, 1) := by decide +kernel
theorem dX6_sharesKeys_17 : decode cX6_sharesKeys 17 = .ok (.invokevirtual 70, 3) := by decide +kernel
theorem dX6_sharesKeys_20 : decode cX6_sharesKeys 20 = .ok (.aload_n 0, 1) := by decide +kernel
theorem dX6_sharesKeys_21 : decode cX6_sharesKeys 21 = .ok (.iload_n 1, 1) := by decide +kernel
theorem dX6_sharesKeys_22 : decode cX6_sharesKeys 22 = .ok (.invokevirtual 70, 3) := by decide +kernel
theorem dX6_sharesKeys_25 : decode cX6_sharesKeys 25 = .ok (.lcmp, 1) := by decide +kernel
theorem dX6_sharesKeys_26 : decode cX6_sharesKeys 26 = .ok (.ifCond .ne 5, 3) := by decide +kernel
theorem dX6_sharesKeys_29 : decode cX6_sharesKeys 29 = .ok (.iconst 1, 1) := by decide +kernel
theorem dX6_sharesKeys_30 : decode cX6_sharesKeys 30 = .ok (.ireturn, 1) := by decide +kernel
theorem dX6_sharesKeys_31 : decode cX6_sharesKeys 31 = .ok (.iinc 2 1, 3) := by decide +kernel
theorem dX6_sharesKeys_34 : decode cX6_sharesKeys 34 = .ok (.goto (-32), 3) := by decide +kernel
theorem dX6_sharesKeys_37 : decode cX6_sharesKeys 37 = .ok (.iconst 0, 1) := by decide +kernel
theorem dX6_sharesKeys_38 : decode cX6_sharesKeys 38 = .ok (.ireturn, 1) := by decide +kernel
theorem dX6_savingOfAll_0 : decode cX6_savingOfAll 0 = .ok (.lconst 0, 1) := by decide +kernel
theorem dX6_savingOfAll_1 : decode cX6_savingOfAll 1 = .ok (.lstore_n 1, 1) := by decide +kernel
theorem dX6_savingOfAll_2 : decode cX6_savingOfAll 2 = .ok (.lconst 0, 1) := by decide +kernel
theorem dX6_savingOfAll_3 : decode cX6_savingOfAll 3 = .ok (.lstore_n 3, 1) := by decide +kernel
theorem dX6_savingOfAll_4 : decode cX6_savingOfAll 4 = .ok (.iconst 0, 1) := by decide +kernel
theorem dX6_savingOfAll_5 : decode cX6_savingOfAll 5 = .ok (.istore 5, 2) := by decide +kernel
theorem dX6_savingOfAll_7 : decode cX6_savingOfAll 7 = .ok (.iload 5, 2) := by decide +kernel
theorem dX6_savingOfAll_9 : decode cX6_savingOfAll 9 = .ok (.aload_n 0, 1) := by decide +kernel
theorem dX6_savingOfAll_10 : decode cX6_savingOfAll 10 = .ok (.getfield 29, 3) := by decide +kernel
theorem dX6_savingOfAll_13 : decode cX6_savingOfAll 13 = .ok (.if_icmp .ge 51, 3) := by decide +kernel
theorem dX6_savingOfAll_16 : decode cX6_savingOfAll 16 = .ok (.aload_n 0, 1) := by decide +kernel
theorem dX6_savingOfAll_17 : decode cX6_savingOfAll 17 = .ok (.iload 5, 2) := by decide +kernel
theorem dX6_savingOfAll_19 : decode cX6_savingOfAll 19 = .ok (.invokevirtual 53, 3) := by decide +kernel
theorem dX6_savingOfAll_22 : decode cX6_savingOfAll 22 = .ok (.i2l, 1) := by decide +kernel
theorem dX6_savingOfAll_23 : decode cX6_savingOfAll 23 = .ok (.lstore 6, 2) := by decide +kernel
theorem dX6_savingOfAll_25 : decode cX6_savingOfAll 25 = .ok (.aload_n 0, 1) := by decide +kernel
theorem dX6_savingOfAll_26 : decode cX6_savingOfAll 26 = .ok (.iload 5, 2) := by decide +kernel
theorem dX6_savingOfAll_28 : decode cX6_savingOfAll 28 = .ok (.invokevirtual 120, 3) := by decide +kernel
theorem dX6_savingOfAll_31 : decode cX6_savingOfAll 31 = .ok (.i2l, 1) := by decide +kernel
theorem dX6_savingOfAll_32 : decode cX6_savingOfAll 32 = .ok (.lstore 8, 2) := by decide +kernel
theorem dX6_savingOfAll_34 : decode cX6_savingOfAll 34 = .ok (.lload_n 1, 1) := by decide +kernel
theorem dX6_savingOfAll_35 : decode cX6_savingOfAll 35 = .ok (.lload 6, 2) := by decide +kernel
theorem dX6_savingOfAll_37 : decode cX6_savingOfAll 37 = .ok (.lload 8, 2) := by decide +kernel
theorem dX6_savingOfAll_39 : decode cX6_savingOfAll 39 = .ok (.aload_n 0, 1) := by decide +kernel
theorem dX6_savingOfAll_40 : decode cX6_savingOfAll 40 = .ok (.iload 5, 2) := by decide +kernel
theorem dX6_savingOfAll_42 : decode cX6_savingOfAll 42 = .ok (.invokevirtual 123, 3) := by decide +kernel
theorem dX6_savingOfAll_45 : decode cX6_savingOfAll 45 = .ok (.i2l, 1) := by decide +kernel
theorem dX6_savingOfAll_46 : decode cX6_savingOfAll 46 = .ok (.lsub, 1) := by decide +kernel
theorem dX6_savingOfAll_47 : decode cX6_savingOfAll 47 = .ok (.lmul, 1) := by decide +kernel
theorem dX6_savingOfAll_48 : decode cX6_savingOfAll 48 = .ok (.ladd, 1) := by decide +kernel
theorem dX6_savingOfAll_49 : decode cX6_savingOfAll 49 = .ok (.lstore_n 1, 1) := by decide +kernel
theorem dX6_savingOfAll_50 : decode cX6_savingOfAll 50 = .ok (.lload_n 3, 1) := by decide +kernel
theorem dX6_savingOfAll_51 : decode cX6_savingOfAll 51 = .ok (.lload 6, 2) := by decide +kernel
theorem dX6_savingOfAll_53 : decode cX6_savingOfAll 53 = .ok (.lload 8, 2) := by decide +kernel
theorem dX6_savingOfAll_55 : decode cX6_savingOfAll 55 = .ok (.lmul, 1) := by decide +kernel
theorem dX6_savingOfAll_56 : decode cX6_savingOfAll 56 = .ok (.ladd, 1) := by decide +kernel
theorem dX6_savingOfAll_57 : decode cX6_savingOfAll 57 = .ok (.lstore_n 3, 1) := by decide +kernel
theorem dX6_savingOfAll_58 : decode cX6_savingOfAll 58 = .ok (.iinc 5 1, 3) := by decide +kernel
theorem dX6_savingOfAll_61 : decode cX6_savingOfAll 61 = .ok (.goto (-54), 3) := by decide +kernel
theorem dX6_savingOfAll_64 : decode cX6_savingOfAll 64 = .ok (.lload_n 3, 1) := by decide +kernel
theorem dX6_savingOfAll_65 : decode cX6_savingOfAll 65 = .ok (.lconst 0, 1) := by decide +kernel
theorem dX6_savingOfAll_66 : decode cX6_savingOfAll 66 = .ok (.lcmp, 1) := by decide +kernel
theorem dX6_savingOfAll_67 : decode cX6_savingOfAll 67 = .ok (.ifCond .ne 7, 3) := by decide +kernel
theorem dX6_savingOfAll_70 : decode cX6_savingOfAll 70 = .ok (.dconst 0, 1) := by decide +kernel
theorem dX6_savingOfAll_71 : decode cX6_savingOfAll 71 = .ok (.goto 8, 3) := by decide +kernel
theorem dX6_savingOfAll_74 : decode cX6_savingOfAll 74 = .ok (.lload_n 1, 1) := by decide +kernel
theorem dX6_savingOfAll_75 : decode cX6_savingOfAll 75 = .ok (.l2d, 1) := by decide +kernel
theorem dX6_savingOfAll_76 : decode cX6_savingOfAll 76 = .ok (.lload_n 3, 1) := by decide +kernel
theorem dX6_savingOfAll_77 : decode cX6_savingOfAll 77 = .ok (.l2d, 1) := by decide +kernel
theorem dX6_savingOfAll_78 : decode cX6_savingOfAll 78 = .ok (.ddiv, 1) := by decide +kernel
theorem dX6_savingOfAll_79 : decode cX6_savingOfAll 79 = .ok (.dreturn, 1) := by decide +kernel
theorem dX7_init_0 : decode cX7_init 0 = .ok (.aload_n 0, 1) := by decide +kernel
theorem dX7_init_1 : decode cX7_init 1 = .ok (.invokespecial 3, 3) := by decide +kernel
theorem dX7_init_4 : decode cX7_init 4 = .ok (.aload_n 0, 1) := by decide +kernel
theorem dX7_init_5 : decode cX7_init 5 = .ok (.bipush 30, 2) := by decide +kernel
theorem dX7_init_7 : decode cX7_init 7 = .ok (.newarray .long, 2) := by decide +kernel
theorem dX7_init_9 : decode cX7_init 9 = .ok (.putfield 9, 3) := by decide +kernel
theorem dX7_init_12 : decode cX7_init 12 = .ok (.return_, 1) := by decide +kernel
theorem dX7_copyFrom_0 : decode cX7_copyFrom 0 = .ok (.aload_n 1, 1) := by decide +kernel
theorem dX7_copyFrom_1 : decode cX7_copyFrom 1 = .ok (.getfield 9, 3) := by decide +kernel
theorem dX7_copyFrom_4 : decode cX7_copyFrom 4 = .ok (.iconst 0, 1) := by decide +kernel
theorem dX7_copyFrom_5 : decode cX7_copyFrom 5 = .ok (.aload_n 0, 1) := by decide +kernel
theorem dX7_copyFrom_6 : decode cX7_copyFrom 6 = .ok (.getfield 9, 3) := by decide +kernel
theorem dX7_copyFrom_9 : decode cX7_copyFrom 9 = .ok (.iconst 0, 1) := by decide +kernel
theorem dX7_copyFrom_10 : decode cX7_copyFrom 10 = .ok (.bipush 30, 2) := by decide +kernel
theorem dX7_copyFrom_12 : decode cX7_copyFrom 12 = .ok (.invokestatic 15, 3) := by decide +kernel
theorem dX7_copyFrom_15 : decode cX7_copyFrom 15 = .ok (.aload_n 0, 1) := by decide +kernel
theorem dX7_copyFrom_16 : decode cX7_copyFrom 16 = .ok (.aload_n 1, 1) := by decide +kernel
theorem dX7_copyFrom_17 : decode cX7_copyFrom 17 = .ok (.getfield 21, 3) := by decide +kernel
theorem dX7_copyFrom_20 : decode cX7_copyFrom 20 = .ok (.putfield 21, 3) := by decide +kernel
theorem dX7_copyFrom_23 : decode cX7_copyFrom 23 = .ok (.return_, 1) := by decide +kernel
theorem dX7_has_0 : decode cX7_has 0 = .ok (.iload_n 1, 1) := by decide +kernel
theorem dX7_has_1 : decode cX7_has 1 = .ok (.ifCond .lt 21, 3) := by decide +kernel
theorem dX7_has_4 : decode cX7_has 4 = .ok (.iload_n 1, 1) := by decide +kernel
theorem dX7_has_5 : decode cX7_has 5 = .ok (.aload_n 0, 1) := by decide +kernel
theorem dX7_has_6 : decode cX7_has 6 = .ok (.getfield 21, 3) := by decide +kernel
theorem dX7_has_9 : decode cX7_has 9 = .ok (.if_icmp .ge 13, 3) := by decide +kernel
theorem dX7_has_12 : decode cX7_has 12 = .ok (.iload_n 1, 1) := by decide +kernel
theorem dX7_has_13 : decode cX7_has 13 = .ok (.bipush 30, 2) := by decide +kernel
theorem dX7_has_15 : decode cX7_has 15 = .ok (.if_icmp .ge 7, 3) := by decide +kernel
theorem dX7_has_18 : decode cX7_has 18 = .ok (.iconst 1, 1) := by decide +kernel
theorem dX7_has_19 : decode cX7_has 19 = .ok (.goto 4, 3) := by decide +kernel
theorem dX7_has_22 : decode cX7_has 22 = .ok (.iconst 0, 1) := by decide +kernel
theorem dX7_has_23 : decode cX7_has 23 = .ok (.ireturn, 1) := by decide +kernel
theorem dX7_wordAt_0 : decode cX7_wordAt 0 = .ok (.aload_n 0, 1) := by decide +kernel
theorem dX7_wordAt_1 : decode cX7_wordAt 1 = .ok (.iload_n 1, 1) := by decide +kernel
theorem dX7_wordAt_2 : decode cX7_wordAt 2 = .ok (.invokevirtual 25, 3) := by decide +kernel
theorem dX7_wordAt_5 : decode cX7_wordAt 5 = .ok (.ifCond .eq 12, 3) := by decide +kernel
theorem dX7_wordAt_8 : decode cX7_wordAt 8 = .ok (.aload_n 0, 1) := by decide +kernel
theorem dX7_wordAt_9 : decode cX7_wordAt 9 = .ok (.getfield 9, 3) := by decide +kernel
theorem dX7_wordAt_12 : decode cX7_wordAt 12 = .ok (.iload_n 1, 1) := by decide +kernel
theorem dX7_wordAt_13 : decode cX7_wordAt 13 = .ok (.laload, 1) := by decide +kernel
theorem dX7_wordAt_14 : decode cX7_wordAt 14 = .ok (.goto 4, 3) := by decide +kernel
theorem dX7_wordAt_17 : decode cX7_wordAt 17 = .ok (.lconst 0, 1) := by decide +kernel
theorem dX7_wordAt_18 : decode cX7_wordAt 18 = .ok (.lreturn, 1) := by decide +kernel
theorem dX7_addWord_0 : decode cX7_addWord 0 = .ok (.aload_n 0, 1) := by decide +kernel
theorem dX7_addWord_1 : decode cX7_addWord 1 = .ok (.getfield 21, 3) := by decide +kernel
theorem dX7_addWord_4 : decode cX7_addWord 4 = .ok (.bipush 30, 2) := by decide +kernel
theorem dX7_addWord_6 : decode cX7_addWord 6 = .ok (.if_icmp .ge 23, 3) := by decide +kernel
theorem dX7_addWord_9 : decode cX7_addWord 9 = .ok (.aload_n 0, 1) := by decide +kernel
theorem dX7_addWord_10 : decode cX7_addWord 10 = .ok (.getfield 9, 3) := by decide +kernel
theorem dX7_addWord_13 : decode cX7_addWord 13 = .ok (.aload_n 0, 1) := by decide +kernel
theorem dX7_addWord_14 : decode cX7_addWord 14 = .ok (.getfield 21, 3) := by decide +kernel
theorem dX7_addWord_17 : decode cX7_addWord 17 = .ok (.lload_n 1, 1) := by decide +kernel
theorem dX7_addWord_18 : decode cX7_addWord 18 = .ok (.lastore, 1) := by decide +kernel
theorem dX7_addWord_19 : decode cX7_addWord 19 = .ok (.aload_n 0, 1) := by decide +kernel
theorem dX7_addWord_20 : decode cX7_addWord 20 = .ok (.dup, 1) := by decide +kernel
theorem dX7_addWord_21 : decode cX7_addWord 21 = .ok (.getfield 21, 3) := by decide +kernel
theorem dX7_addWord_24 : decode cX7_addWord 24 = .ok (.iconst 1, 1) := by decide +kernel
theorem dX7_addWord_25 : decode cX7_addWord 25 = .ok (.iadd, 1) := by decide +kernel
theorem dX7_addWord_26 : decode cX7_addWord 26 = .ok (.putfield 21, 3) := by decide +kernel
theorem dX7_addWord_29 : decode cX7_addWord 29 = .ok (.return_, 1) := by decide +kernel
theorem dX7_replace_0 : decode cX7_replace 0 = .ok (.aload_n 0, 1) := by decide +kernel
theorem dX7_replace_1 : decode cX7_replace 1 = .ok (.iload_n 1, 1) := by decide +kernel
theorem dX7_replace_2 : decode cX7_replace 2 = .ok (.invokevirtual 25, 3) := by decide +kernel
theorem dX7_replace_5 : decode cX7_replace 5 = .ok (.ifCond .eq 10, 3) := by decide +kernel
theorem dX7_replace_8 : decode cX7_replace 8 = .ok (.aload_n 0, 1) := by decide +kernel
theorem dX7_replace_9 : decode cX7_replace 9 = .ok (.getfield 9, 3) := by decide +kernel
theorem dX7_replace_12 : decode cX7_replace 12 = .ok (.iload_n 1, 1) := by decide +kernel
theorem dX7_replace_13 : decode cX7_replace 13 = .ok (.lload_n 2, 1) := by decide +kernel
theorem dX7_replace_14 : decode cX7_replace 14 = .ok (.lastore, 1) := by decide +kernel
theorem dX7_replace_15 : decode cX7_replace 15 = .ok (.return_, 1) := by decide +kernel
theorem dX7_remove_0 : decode cX7_remove 0 = .ok (.aload_n 0, 1) := by decide +kernel
theorem dX7_remove_1 : decode cX7_remove 1 = .ok (.iload_n 1, 1) := by decide +kernel
theorem dX7_remove_2 : decode cX7_remove 2 = .ok (.invokevirtual 25, 3) := by decide +kernel
theorem dX7_remove_5 : decode cX7_remove 5 = .ok (.ifCond .ne 4, 3) := by decide +kernel
theorem dX7_remove_8 : decode cX7_remove 8 = .ok (.return_, 1) := by decide +kernel
theorem dX7_remove_9 : decode cX7_remove 9 = .ok (.iload_n 1, 1) := by decide +kernel
theorem dX7_remove_10 : decode cX7_remove 10 = .ok (.iconst 1, 1) := by decide +kernel
theorem dX7_remove_11 : decode cX7_remove 11 = .ok (.iadd, 1) := by decide +kernel
theorem dX7_remove_12 : decode cX7_remove 12 = .ok (.istore_n 2, 1) := by decide +kernel
theorem dX7_remove_13 : decode cX7_remove 13 = .ok (.iload_n 2, 1) := by decide +kernel
theorem dX7_remove_14 : decode cX7_remove 14 = .ok (.aload_n 0, 1) := by decide +kernel
theorem dX7_remove_15 : decode cX7_remove 15 = .ok (.getfield 21, 3) := by decide +kernel
theorem dX7_remove_18 : decode cX7_remove 18 = .ok (.if_icmp .ge 23, 3) := by decide +kernel
theorem dX7_remove_21 : decode cX7_remove 21 = .ok (.aload_n 0, 1) := by decide +kernel
theorem dX7_remove_22 : decode cX7_remove 22 = .ok (.getfield 9, 3) := by decide +kernel
theorem dX7_remove_25 : decode cX7_remove 25 = .ok (.iload_n 2, 1) := by decide +kernel
theorem dX7_remove_26 : decode cX7_remove 26 = .ok (.iconst 1, 1) := by decide +kernel
theorem dX7_remove_27 : decode cX7_remove 27 = .ok (.isub, 1) := by decide +kernel
theorem dX7_remove_28 : decode cX7_remove 28 = .ok (.aload_n 0, 1) := by decide +kernel
theorem dX7_remove_29 : decode cX7_remove 29 = .ok (.getfield 9, 3) := by decide +kernel
theorem dX7_remove_32 : decode cX7_remove 32 = .ok (.iload_n 2, 1) := by decide +kernel
theorem dX7_remove_33 : decode cX7_remove 33 = .ok (.laload, 1) := by decide +kernel
theorem dX7_remove_34 : decode cX7_remove 34 = .ok (.lastore, 1) := by decide +kernel
theorem dX7_remove_35 : decode cX7_remove 35 = .ok (.iinc 2 1, 3) := by decide +kernel
theorem dX7_remove_38 : decode cX7_remove 38 = .ok (.goto (-25), 3) := by decide +kernel
theorem dX7_remove_41 : decode cX7_remove 41 = .ok (.aload_n 0, 1) := by decide +kernel
theorem dX7_remove_42 : decode cX7_remove 42 = .ok (.dup, 1) := by decide +kernel
theorem dX7_remove_43 : decode cX7_remove 43 = .ok (.getfield 21, 3) := by decide +kernel
theorem dX7_remove_46 : decode cX7_remove 46 = .ok (.iconst 1, 1) := by decide +kernel
theorem dX7_remove_47 : decode cX7_remove 47 = .ok (.isub, 1) := by decide +kernel
theorem dX7_remove_48 : decode cX7_remove 48 = .ok (.putfield 21, 3) := by decide +kernel
theorem dX7_remove_51 : decode cX7_remove 51 = .ok (.return_, 1) := by decide +kernel
theorem dX8_init_0 : decode cX8_init 0 = .ok (.aload_n 0, 1) := by decide +kernel
theorem dX8_init_1 : decode cX8_init 1 = .ok (.invokespecial 1, 3) := by decide +kernel
theorem dX8_init_4 : decode cX8_init 4 = .ok (.aload_n 0, 1) := by decide +kernel
theorem dX8_init_5 : decode cX8_init 5 = .ok (.new 7, 3) := by decide +kernel
theorem dX8_init_8 : decode cX8_init 8 = .ok (.dup, 1) := by decide +kernel
theorem dX8_init_9 : decode cX8_init 9 = .ok (.invokespecial 9, 3) := by decide +kernel
theorem dX8_init_12 : decode cX8_init 12 = .ok (.putfield 10, 3) := by decide +kernel
theorem dX8_init_15 : decode cX8_init 15 = .ok (.aload_n 0, 1) := by decide +kernel
theorem dX8_init_16 : decode cX8_init 16 = .ok (.new 16, 3) := by decide +kernel
theorem dX8_init_19 : decode cX8_init 19 = .ok (.dup, 1) := by decide +kernel
theorem dX8_init_20 : decode cX8_init 20 = .ok (.invokespecial 18, 3) := by decide +kernel
theorem dX8_init_23 : decode cX8_init 23 = .ok (.putfield 19, 3) := by decide +kernel
theorem dX8_init_26 : decode cX8_init 26 = .ok (.aload_n 0, 1) := by decide +kernel
theorem dX8_init_27 : decode cX8_init 27 = .ok (.new 23, 3) := by decide +kernel
theorem dX8_init_30 : decode cX8_init 30 = .ok (.dup, 1) := by decide +kernel
theorem dX8_init_31 : decode cX8_init 31 = .ok (.invokespecial 25, 3) := by decide +kernel
theorem dX8_init_34 : decode cX8_init 34 = .ok (.putfield 26, 3) := by decide +kernel
theorem dX8_init_37 : decode cX8_init 37 = .ok (.aload_n 0, 1) := by decide +kernel
theorem dX8_init_38 : decode cX8_init 38 = .ok (.new 30, 3) := by decide +kernel
theorem dX8_init_41 : decode cX8_init 41 = .ok (.dup, 1) := by decide +kernel
theorem dX8_init_42 : decode cX8_init 42 = .ok (.invokespecial 32, 3) := by decide +kernel
theorem dX8_init_45 : decode cX8_init 45 = .ok (.putfield 33, 3) := by decide +kernel
theorem dX8_init_48 : decode cX8_init 48 = .ok (.aload_n 0, 1) := by decide +kernel
theorem dX8_init_49 : decode cX8_init 49 = .ok (.new 37, 3) := by decide +kernel
theorem dX8_init_52 : decode cX8_init 52 = .ok (.dup, 1) := by decide +kernel
theorem dX8_init_53 : decode cX8_init 53 = .ok (.invokespecial 39, 3) := by decide +kernel
theorem dX8_init_56 : decode cX8_init 56 = .ok (.putfield 40, 3) := by decide +kernel
theorem dX8_init_59 : decode cX8_init 59 = .ok (.return_, 1) := by decide +kernel
theorem dX8_append_0 : decode cX8_append 0 = .ok (.iload_n 1, 1) := by decide +kernel
theorem dX8_append_1 : decode cX8_append 1 = .ok (.ifCond .lt 9, 3) := by decide +kernel
theorem dX8_append_4 : decode cX8_append 4 = .ok (.iload_n 1, 1) := by decide +kernel
theorem dX8_append_5 : decode cX8_append 5 = .ok (.bipush 127, 2) := by decide +kernel
theorem dX8_append_7 : decode cX8_append 7 = .ok (.if_icmp .le 13, 3) := by decide +kernel
theorem dX8_append_10 : decode cX8_append 10 = .ok (.new 44, 3) := by decide +kernel
theorem dX8_append_13 : decode cX8_append 13 = .ok (.dup, 1) := by decide +kernel
theorem dX8_append_14 : decode cX8_append 14 = .ok (.ldc 46, 2) := by decide +kernel
theorem dX8_append_16 : decode cX8_append 16 = .ok (.invokespecial 48, 3) := by decide +kernel
theorem dX8_append_19 : decode cX8_append 19 = .ok (.athrow, 1) := by decide +kernel
theorem dX8_append_20 : decode cX8_append 20 = .ok (.aload_n 0, 1) := by decide +kernel
theorem dX8_append_21 : decode cX8_append 21 = .ok (.getfield 10, 3) := by decide +kernel
theorem dX8_append_24 : decode cX8_append 24 = .ok (.invokevirtual 51, 3) := by decide +kernel
theorem dX8_append_27 : decode cX8_append 27 = .ok (.ifCond .eq 13, 3) := by decide +kernel
theorem dX8_append_30 : decode cX8_append 30 = .ok (.new 55, 3) := by decide +kernel
theorem dX8_append_33 : decode cX8_append 33 = .ok (.dup, 1) := by decide +kernel
theorem dX8_append_34 : decode cX8_append 34 = .ok (.ldc 57, 2) := by decide +kernel
theorem dX8_append_36 : decode cX8_append 36 = .ok (.invokespecial 59, 3) := by decide +kernel
theorem dX8_append_39 : decode cX8_append 39 = .ok (.athrow, 1) := by decide +kernel
theorem dX8_append_40 : decode cX8_append 40 = .ok (.aload_n 0, 1) := by decide +kernel
theorem dX8_append_41 : decode cX8_append 41 = .ok (.getfield 10, 3) := by decide +kernel
theorem dX8_append_44 : decode cX8_append 44 = .ok (.iload_n 1, 1) := by decide +kernel
theorem dX8_append_45 : decode cX8_append 45 = .ok (.invokevirtual 60, 3) := by decide +kernel
theorem dX8_append_48 : decode cX8_append 48 = .ok (.aload_n 0, 1) := by decide +kernel
theorem dX8_append_49 : decode cX8_append 49 = .ok (.getfield 10, 3) := by decide +kernel
theorem dX8_append_52 : decode cX8_append 52 = .ok (.getfield 64, 3) := by decide +kernel
theorem dX8_append_55 : decode cX8_append 55 = .ok (.ireturn, 1) := by decide +kernel
theorem dX8_load_0 : decode cX8_load 0 = .ok (.aload_n 0, 1) := by decide +kernel
theorem dX8_load_1 : decode cX8_load 1 = .ok (.getfield 10, 3) := by decide +kernel
theorem dX8_load_4 : decode cX8_load 4 = .ok (.aload_n 0, 1) := by decide +kernel
theorem dX8_load_5 : decode cX8_load 5 = .ok (.getfield 19, 3) := by decide +kernel
theorem dX8_load_8 : decode cX8_load 8 = .ok (.invokevirtual 71, 3) := by decide +kernel
theorem dX8_load_11 : decode cX8_load 11 = .ok (.istore_n 1, 1) := by decide +kernel
theorem dX8_load_12 : decode cX8_load 12 = .ok (.iload_n 1, 1) := by decide +kernel
theorem dX8_load_13 : decode cX8_load 13 = .ok (.iconst (-1), 1) := by decide +kernel
theorem dX8_load_14 : decode cX8_load 14 = .ok (.if_icmp .eq 8, 3) := by decide +kernel
theorem dX8_load_17 : decode cX8_load 17 = .ok (.bipush (-10), 2) := by decide +kernel
theorem dX8_load_19 : decode cX8_load 19 = .ok (.iload_n 1, 1) := by decide +kernel
theorem dX8_load_20 : decode cX8_load 20 = .ok (.isub, 1) := by decide +kernel
theorem dX8_load_21 : decode cX8_load 21 = .ok (.ireturn, 1) := by decide +kernel
theorem dX8_load_22 : decode cX8_load 22 = .ok (.aload_n 0, 1) := by decide +kernel
theorem dX8_load_23 : decode cX8_load 23 = .ok (.getfield 33, 3) := by decide +kernel
theorem dX8_load_26 : decode cX8_load 26 = .ok (.aload_n 0, 1) := by decide +kernel
theorem dX8_load_27 : decode cX8_load 27 = .ok (.getfield 26, 3) := by decide +kernel
theorem dX8_load_30 : decode cX8_load 30 = .ok (.invokevirtual 75, 3) := by decide +kernel
theorem dX8_load_33 : decode cX8_load 33 = .ok (.aload_n 0, 1) := by decide +kernel
theorem dX8_load_34 : decode cX8_load 34 = .ok (.getfield 26, 3) := by decide +kernel
theorem dX8_load_37 : decode cX8_load 37 = .ok (.getfield 79, 3) := by decide +kernel
theorem dX8_load_40 : decode cX8_load 40 = .ok (.aload_n 0, 1) := by decide +kernel
theorem dX8_load_41 : decode cX8_load 41 = .ok (.getfield 19, 3) := by decide +kernel
theorem dX8_load_44 : decode cX8_load 44 = .ok (.invokevirtual 82, 3) := by decide +kernel
theorem dX8_load_47 : decode cX8_load 47 = .ok (.aload_n 0, 1) := by decide +kernel
theorem dX8_load_48 : decode cX8_load 48 = .ok (.getfield 26, 3) := by decide +kernel
theorem dX8_load_51 : decode cX8_load 51 = .ok (.iconst 0, 1) := by decide +kernel
theorem dX8_load_52 : decode cX8_load 52 = .ok (.putfield 86, 3) := by decide +kernel
theorem dX8_load_55 : decode cX8_load 55 = .ok (.aload_n 0, 1) := by decide +kernel
theorem dX8_load_56 : decode cX8_load 56 = .ok (.getfield 26, 3) := by decide +kernel
theorem dX8_load_59 : decode cX8_load 59 = .ok (.getfield 79, 3) := by decide +kernel
theorem dX8_load_62 : decode cX8_load 62 = .ok (.getfield 89, 3) := by decide +kernel
theorem dX8_load_65 : decode cX8_load 65 = .ok (.ireturn, 1) := by decide +kernel
theorem dX8_setWays_0 : decode cX8_setWays 0 = .ok (.iload_n 2, 1) := by decide +kernel
theorem dX8_setWays_1 : decode cX8_setWays 1 = .ok (.iconst 1, 1) := by decide +kernel
theorem dX8_setWays_2 : decode cX8_setWays 2 = .ok (.if_icmp .lt 9, 3) := by decide +kernel
theorem dX8_setWays_5 : decode cX8_setWays 5 = .ok (.iload_n 2, 1) := by decide +kernel
theorem dX8_setWays_6 : decode cX8_setWays 6 = .ok (.bipush 50, 2) := by decide +kernel
theorem dX8_setWays_8 : decode cX8_setWays 8 = .ok (.if_icmp .le 13, 3) := by decide +kernel
theorem dX8_setWays_11 : decode cX8_setWays 11 = .ok (.new 44, 3) := by decide +kernel
theorem dX8_setWays_14 : decode cX8_setWays 14 = .ok (.dup, 1) := by decide +kernel
theorem dX8_setWays_15 : decode cX8_setWays 15 = .ok (.ldc 92, 2) := by decide +kernel
theorem dX8_setWays_17 : decode cX8_setWays 17 = .ok (.invokespecial 48, 3) := by decide +kernel
theorem dX8_setWays_20 : decode cX8_setWays 20 = .ok (.athrow, 1) := by decide +kernel
theorem dX8_setWays_21 : decode cX8_setWays 21 = .ok (.aload_n 0, 1) := by decide +kernel
theorem dX8_setWays_22 : decode cX8_setWays 22 = .ok (.getfield 33, 3) := by decide +kernel
theorem dX8_setWays_25 : decode cX8_setWays 25 = .ok (.aload_n 0, 1) := by decide +kernel
theorem dX8_setWays_26 : decode cX8_setWays 26 = .ok (.getfield 26, 3) := by decide +kernel
theorem dX8_setWays_29 : decode cX8_setWays 29 = .ok (.invokevirtual 75, 3) := by decide +kernel
theorem dX8_setWays_32 : decode cX8_setWays 32 = .ok (.aload_n 0, 1) := by decide +kernel
theorem dX8_setWays_33 : decode cX8_setWays 33 = .ok (.getfield 26, 3) := by decide +kernel
theorem dX8_setWays_36 : decode cX8_setWays 36 = .ok (.getfield 94, 3) := by decide +kernel
theorem dX8_setWays_39 : decode cX8_setWays 39 = .ok (.istore_n 3, 1) := by decide +kernel
theorem dX8_setWays_40 : decode cX8_setWays 40 = .ok (.aload_n 0, 1) := by decide +kernel
theorem dX8_setWays_41 : decode cX8_setWays 41 = .ok (.getfield 26, 3) := by decide +kernel
theorem dX8_setWays_44 : decode cX8_setWays 44 = .ok (.iload_n 1, 1) := by decide +kernel
theorem dX8_setWays_45 : decode cX8_setWays 45 = .ok (.putfield 97, 3) := by decide +kernel
theorem dX8_setWays_48 : decode cX8_setWays 48 = .ok (.aload_n 0, 1) := by decide +kernel
theorem dX8_setWays_49 : decode cX8_setWays 49 = .ok (.getfield 26, 3) := by decide +kernel
theorem dX8_setWays_52 : decode cX8_setWays 52 = .ok (.iload_n 2, 1) := by decide +kernel
theorem dX8_setWays_53 : decode cX8_setWays 53 = .ok (.putfield 94, 3) := by decide +kernel
theorem dX8_setWays_56 : decode cX8_setWays 56 = .ok (.aload_n 0, 1) := by decide +kernel
theorem dX8_setWays_57 : decode cX8_setWays 57 = .ok (.getfield 26, 3) := by decide +kernel
theorem dX8_setWays_60 : decode cX8_setWays 60 = .ok (.iconst 0, 1) := by decide +kernel
theorem dX8_setWays_61 : decode cX8_setWays 61 = .ok (.putfield 86, 3) := by decide +kernel
theorem dX8_setWays_64 : decode cX8_setWays 64 = .ok (.iload_n 3, 1) := by decide +kernel
theorem dX8_setWays_65 : decode cX8_setWays 65 = .ok (.ireturn, 1) := by decide +kernel
theorem dX8_word_0 : decode cX8_word 0 = .ok (.aload_n 0, 1) := by decide +kernel
theorem dX8_word_1 : decode cX8_word 1 = .ok (.getfield 26, 3) := by decide +kernel
theorem dX8_word_4 : decode cX8_word 4 = .ok (.getfield 79, 3) := by decide +kernel
theorem dX8_word_7 : decode cX8_word 7 = .ok (.iload_n 1, 1) := by decide +kernel
theorem dX8_word_8 : decode cX8_word 8 = .ok (.invokevirtual 101, 3) := by decide +kernel
theorem dX8_word_11 : decode cX8_word 11 = .ok (.ifCond .ne 13, 3) := by decide +kernel
theorem dX8_word_14 : decode cX8_word 14 = .ok (.new 105, 3) := by decide +kernel
theorem dX8_word_17 : decode cX8_word 17 = .ok (.dup, 1) := by decide +kernel
theorem dX8_word_18 : decode cX8_word 18 = .ok (.ldc 107, 2) := by decide +kernel
theorem dX8_word_20 : decode cX8_word 20 = .ok (.invokespecial 109, 3) := by decide +kernel
theorem dX8_word_23 : decode cX8_word 23 = .ok (.athrow, 1) := by decide +kernel
theorem dX8_word_24 : decode cX8_word 24 = .ok (.iload_n 2, 1) := by decide +kernel
theorem dX8_word_25 : decode cX8_word 25 = .ok (.ifCond .lt 8, 3) := by decide +kernel
theorem dX8_word_28 : decode cX8_word 28 = .ok (.iload_n 2, 1) := by decide +kernel
theorem dX8_word_29 : decode cX8_word 29 = .ok (.iconst 5, 1) := by decide +kernel
theorem dX8_word_30 : decode cX8_word 30 = .ok (.if_icmp .lt 13, 3) := by decide +kernel
theorem dX8_word_33 : decode cX8_word 33 = .ok (.new 44, 3) := by decide +kernel
theorem dX8_word_36 : decode cX8_word 36 = .ok (.dup, 1) := by decide +kernel
theorem dX8_word_37 : decode cX8_word 37 = .ok (.ldc 110, 2) := by decide +kernel
theorem dX8_word_39 : decode cX8_word 39 = .ok (.invokespecial 48, 3) := by decide +kernel
theorem dX8_word_42 : decode cX8_word 42 = .ok (.athrow, 1) := by decide +kernel
theorem dX8_word_43 : decode cX8_word 43 = .ok (.aload_n 0, 1) := by decide +kernel
theorem dX8_word_44 : decode cX8_word 44 = .ok (.getfield 26, 3) := by decide +kernel
theorem dX8_word_47 : decode cX8_word 47 = .ok (.getfield 79, 3) := by decide +kernel
theorem dX8_word_50 : decode cX8_word 50 = .ok (.iload_n 1, 1) := by decide +kernel
theorem dX8_word_51 : decode cX8_word 51 = .ok (.iload_n 2, 1) := by decide +kernel
theorem dX8_word_52 : decode cX8_word 52 = .ok (.invokevirtual 112, 3) := by decide +kernel
theorem dX8_word_55 : decode cX8_word 55 = .ok (.ireturn, 1) := by decide +kernel
theorem dX8_letter_0 : decode cX8_letter 0 = .ok (.aload_n 0, 1) := by decide +kernel
theorem dX8_letter_1 : decode cX8_letter 1 = .ok (.getfield 26, 3) := by decide +kernel
theorem dX8_letter_4 : decode cX8_letter 4 = .ok (.getfield 79, 3) := by decide +kernel
theorem dX8_letter_7 : decode cX8_letter 7 = .ok (.iload_n 1, 1) := by decide +kernel
theorem dX8_letter_8 : decode cX8_letter 8 = .ok (.invokevirtual 101, 3) := by decide +kernel
theorem dX8_letter_11 : decode cX8_letter 11 = .ok (.ifCond .ne 13, 3) := by decide +kernel
theorem dX8_letter_14 : decode cX8_letter 14 = .ok (.new 105, 3) := by decide +kernel
theorem dX8_letter_17 : decode cX8_letter 17 = .ok (.dup, 1) := by decide +kernel
theorem dX8_letter_18 : decode cX8_letter 18 = .ok (.ldc 107, 2) := by decide +kernel
theorem dX8_letter_20 : decode cX8_letter 20 = .ok (.invokespecial 109, 3) := by decide +kernel
theorem dX8_letter_23 : decode cX8_letter 23 = .ok (.athrow, 1) := by decide +kernel
theorem dX8_letter_24 : decode cX8_letter 24 = .ok (.aload_n 0, 1) := by decide +kernel
theorem dX8_letter_25 : decode cX8_letter 25 = .ok (.getfield 26, 3) := by decide +kernel
theorem dX8_letter_28 : decode cX8_letter 28 = .ok (.getfield 79, 3) := by decide +kernel
theorem dX8_letter_31 : decode cX8_letter 31 = .ok (.iload_n 1, 1) := by decide +kernel
theorem dX8_letter_32 : decode cX8_letter 32 = .ok (.invokevirtual 116, 3) := by decide +kernel
theorem dX8_letter_35 : decode cX8_letter 35 = .ok (.lstore_n 3, 1) := by decide +kernel
theorem dX8_letter_36 : decode cX8_letter 36 = .ok (.lload_n 3, 1) := by decide +kernel
theorem dX8_letter_37 : decode cX8_letter 37 = .ok (.iload_n 2, 1) := by decide +kernel
theorem dX8_letter_38 : decode cX8_letter 38 = .ok (.invokestatic 120, 3) := by decide +kernel
theorem dX8_letter_41 : decode cX8_letter 41 = .ok (.ifCond .ne 13, 3) := by decide +kernel
theorem dX8_letter_44 : decode cX8_letter 44 = .ok (.new 105, 3) := by decide +kernel
theorem dX8_letter_47 : decode cX8_letter 47 = .ok (.dup, 1) := by decide +kernel
theorem dX8_letter_48 : decode cX8_letter 48 = .ok (.ldc 125, 2) := by decide +kernel
theorem dX8_letter_50 : decode cX8_letter 50 = .ok (.invokespecial 109, 3) := by decide +kernel
theorem dX8_letter_53 : decode cX8_letter 53 = .ok (.athrow, 1) := by decide +kernel
theorem dX8_letter_54 : decode cX8_letter 54 = .ok (.lload_n 3, 1) := by decide +kernel
theorem dX8_letter_55 : decode cX8_letter 55 = .ok (.iload_n 2, 1) := by decide +kernel
theorem dX8_letter_56 : decode cX8_letter 56 = .ok (.invokestatic 127, 3) := by decide +kernel
theorem dX8_letter_59 : decode cX8_letter 59 = .ok (.ireturn, 1) := by decide +kernel
theorem dX8_press_0 : decode cX8_press 0 = .ok (.iload_n 1, 1) := by decide +kernel
theorem dX8_press_1 : decode cX8_press 1 = .ok (.invokestatic 131, 3) := by decide +kernel
theorem dX8_press_4 : decode cX8_press 4 = .ok (.ifCond .ne 13, 3) := by decide +kernel
theorem dX8_press_7 : decode cX8_press 7 = .ok (.new 44, 3) := by decide +kernel
theorem dX8_press_10 : decode cX8_press 10 = .ok (.dup, 1) := by decide +kernel
theorem dX8_press_11 : decode cX8_press 11 = .ok (.ldc 136, 2) := by decide +kernel
theorem dX8_press_13 : decode cX8_press 13 = .ok (.invokespecial 48, 3) := by decide +kernel
theorem dX8_press_16 : decode cX8_press 16 = .ok (.athrow, 1) := by decide +kernel
theorem dX8_press_17 : decode cX8_press 17 = .ok (.aload_n 0, 1) := by decide +kernel
theorem dX8_press_18 : decode cX8_press 18 = .ok (.getfield 26, 3) := by decide +kernel
theorem dX8_press_21 : decode cX8_press 21 = .ok (.getfield 138, 3) := by decide +kernel
theorem dX8_press_24 : decode cX8_press 24 = .ok (.iload_n 1, 1) := by decide +kernel
theorem dX8_press_25 : decode cX8_press 25 = .ok (.if_icmp .ne 7, 3) := by decide +kernel
theorem dX8_press_28 : decode cX8_press 28 = .ok (.iconst 1, 1) := by decide +kernel
theorem dX8_press_29 : decode cX8_press 29 = .ok (.goto 4, 3) := by decide +kernel
theorem dX8_press_32 : decode cX8_press 32 = .ok (.iconst 0, 1) := by decide +kernel
theorem dX8_press_33 : decode cX8_press 33 = .ok (.istore_n 2, 1) := by decide +kernel
theorem dX8_press_34 : decode cX8_press 34 = .ok (.iload_n 2, 1) := by decide +kernel
theorem dX8_press_35 : decode cX8_press 35 = .ok (.ifCond .ne 25, 3) := by decide +kernel
theorem dX8_press_38 : decode cX8_press 38 = .ok (.aload_n 0, 1) := by decide +kernel
theorem dX8_press_39 : decode cX8_press 39 = .ok (.getfield 26, 3) := by decide +kernel
theorem dX8_press_42 : decode cX8_press 42 = .ok (.invokevirtual 141, 3) := by decide +kernel
theorem dX8_press_45 : decode cX8_press 45 = .ok (.bipush 10, 2) := by decide +kernel
theorem dX8_press_47 : decode cX8_press 47 = .ok (.if_icmp .lt 13, 3) := by decide +kernel
theorem dX8_press_50 : decode cX8_press 50 = .ok (.new 55, 3) := by decide +kernel
theorem dX8_press_53 : decode cX8_press 53 = .ok (.dup, 1) := by decide +kernel
theorem dX8_press_54 : decode cX8_press 54 = .ok (.ldc 145, 2) := by decide +kernel
theorem dX8_press_56 : decode cX8_press 56 = .ok (.invokespecial 59, 3) := by decide +kernel
theorem dX8_press_59 : decode cX8_press 59 = .ok (.athrow, 1) := by decide +kernel
theorem dX8_press_60 : decode cX8_press 60 = .ok (.aload_n 0, 1) := by decide +kernel
theorem dX8_press_61 : decode cX8_press 61 = .ok (.getfield 33, 3) := by decide +kernel
theorem dX8_press_64 : decode cX8_press 64 = .ok (.aload_n 0, 1) := by decide +kernel
theorem dX8_press_65 : decode cX8_press 65 = .ok (.getfield 26, 3) := by decide +kernel
theorem dX8_press_68 : decode cX8_press 68 = .ok (.invokevirtual 75, 3) := by decide +kernel
theorem dX8_press_71 : decode cX8_press 71 = .ok (.iload_n 2, 1) := by decide +kernel
theorem dX8_press_72 : decode cX8_press 72 = .ok (.ifCond .eq 13, 3) := by decide +kernel
theorem dX8_press_75 : decode cX8_press 75 = .ok (.aload_n 0, 1) := by decide +kernel
theorem dX8_press_76 : decode cX8_press 76 = .ok (.getfield 26, 3) := by decide +kernel
theorem dX8_press_79 : decode cX8_press 79 = .ok (.invokevirtual 147, 3) := by decide +kernel
theorem dX8_press_82 : decode cX8_press 82 = .ok (.goto 11, 3) := by decide +kernel
theorem dX8_press_85 : decode cX8_press 85 = .ok (.aload_n 0, 1) := by decide +kernel
theorem dX8_press_86 : decode cX8_press 86 = .ok (.getfield 26, 3) := by decide +kernel
theorem dX8_press_89 : decode cX8_press 89 = .ok (.iload_n 1, 1) := by decide +kernel
theorem dX8_press_90 : decode cX8_press 90 = .ok (.invokevirtual 150, 3) := by decide +kernel
theorem dX8_press_93 : decode cX8_press 93 = .ok (.aload_n 0, 1) := by decide +kernel
theorem dX8_press_94 : decode cX8_press 94 = .ok (.getfield 26, 3) := by decide +kernel
theorem dX8_press_97 : decode cX8_press 97 = .ok (.invokevirtual 141, 3) := by decide +kernel
theorem dX8_press_100 : decode cX8_press 100 = .ok (.ireturn, 1) := by decide +kernel
theorem dX8_pause_0 : decode cX8_pause 0 = .ok (.aload_n 0, 1) := by decide +kernel
theorem dX8_pause_1 : decode cX8_pause 1 = .ok (.getfield 33, 3) := by decide +kernel
theorem dX8_pause_4 : decode cX8_pause 4 = .ok (.aload_n 0, 1) := by decide +kernel
theorem dX8_pause_5 : decode cX8_pause 5 = .ok (.getfield 26, 3) := by decide +kernel
theorem dX8_pause_8 : decode cX8_pause 8 = .ok (.invokevirtual 75, 3) := by decide +kernel
theorem dX8_pause_11 : decode cX8_pause 11 = .ok (.aload_n 0, 1) := by decide +kernel
theorem dX8_pause_12 : decode cX8_pause 12 = .ok (.getfield 26, 3) := by decide +kernel
theorem dX8_pause_15 : decode cX8_pause 15 = .ok (.getfield 138, 3) := by decide +kernel
theorem dX8_pause_18 : decode cX8_pause 18 = .ok (.istore_n 1, 1) := by decide +kernel
theorem dX8_pause_19 : decode cX8_pause 19 = .ok (.aload_n 0, 1) := by decide +kernel
theorem dX8_pause_20 : decode cX8_pause 20 = .ok (.getfield 26, 3) := by decide +kernel
theorem dX8_pause_23 : decode cX8_pause 23 = .ok (.iconst (-1), 1) := by decide +kernel
theorem dX8_pause_24 : decode cX8_pause 24 = .ok (.putfield 138, 3) := by decide +kernel
theorem dX8_pause_27 : decode cX8_pause 27 = .ok (.iload_n 1, 1) := by decide +kernel
theorem dX8_pause_28 : decode cX8_pause 28 = .ok (.ireturn, 1) := by decide +kernel
theorem dX8_mode_0 : decode cX8_mode 0 = .ok (.aload_n 0, 1) := by decide +kernel
theorem dX8_mode_1 : decode cX8_mode 1 = .ok (.getfield 33, 3) := by decide +kernel
theorem dX8_mode_4 : decode cX8_mode 4 = .ok (.aload_n 0, 1) := by decide +kernel
theorem dX8_mode_5 : decode cX8_mode 5 = .ok (.getfield 26, 3) := by decide +kernel
theorem dX8_mode_8 : decode cX8_mode 8 = .ok (.invokevirtual 75, 3) := by decide +kernel
theorem dX8_mode_11 : decode cX8_mode 11 = .ok (.iload_n 1, 1) := by decide +kernel
theorem dX8_mode_12 : decode cX8_mode 12 = .ok (.ifCond .eq 24, 3) := by decide +kernel
theorem dX8_mode_15 : decode cX8_mode 15 = .ok (.aload_n 0, 1) := by decide +kernel
theorem dX8_mode_16 : decode cX8_mode 16 = .ok (.getfield 26, 3) := by decide +kernel
theorem dX8_mode_19 : decode cX8_mode 19 = .ok (.aload_n 0, 1) := by decide +kernel
theorem dX8_mode_20 : decode cX8_mode 20 = .ok (.invokevirtual 153, 3) := by decide +kernel
theorem dX8_mode_23 : decode cX8_mode 23 = .ok (.aload_n 0, 1) := by decide +kernel
theorem dX8_mode_24 : decode cX8_mode 24 = .ok (.getfield 26, 3) := by decide +kernel
theorem dX8_mode_27 : decode cX8_mode 27 = .ok (.invokevirtual 141, 3) := by decide +kernel
theorem dX8_mode_30 : decode cX8_mode 30 = .ok (.invokestatic 157, 3) := by decide +kernel
theorem dX8_mode_33 : decode cX8_mode 33 = .ok (.putfield 161, 3) := by decide +kernel
theorem dX8_mode_36 : decode cX8_mode 36 = .ok (.aload_n 0, 1) := by decide +kernel
theorem dX8_mode_37 : decode cX8_mode 37 = .ok (.getfield 26, 3) := by decide +kernel
theorem dX8_mode_40 : decode cX8_mode 40 = .ok (.iload_n 1, 1) := by decide +kernel
theorem dX8_mode_41 : decode cX8_mode 41 = .ok (.putfield 165, 3) := by decide +kernel
theorem dX8_mode_44 : decode cX8_mode 44 = .ok (.aload_n 0, 1) := by decide +kernel
theorem dX8_mode_45 : decode cX8_mode 45 = .ok (.getfield 26, 3) := by decide +kernel
theorem dX8_mode_48 : decode cX8_mode 48 = .ok (.iconst (-1), 1) := by decide +kernel
theorem dX8_mode_49 : decode cX8_mode 49 = .ok (.putfield 138, 3) := by decide +kernel
theorem dX8_mode_52 : decode cX8_mode 52 = .ok (.aload_n 0, 1) := by decide +kernel
theorem dX8_mode_53 : decode cX8_mode 53 = .ok (.getfield 26, 3) := by decide +kernel
theorem dX8_mode_56 : decode cX8_mode 56 = .ok (.iconst 0, 1) := by decide +kernel
theorem dX8_mode_57 : decode cX8_mode 57 = .ok (.putfield 86, 3) := by decide +kernel
theorem dX8_mode_60 : decode cX8_mode 60 = .ok (.aload_n 0, 1) := by decide +kernel
theorem dX8_mode_61 : decode cX8_mode 61 = .ok (.getfield 26, 3) := by decide +kernel
theorem dX8_mode_64 : decode cX8_mode 64 = .ok (.invokevirtual 141, 3) := by decide +kernel
theorem dX8_mode_67 : decode cX8_mode 67 = .ok (.ireturn, 1) := by decide +kernel
theorem dX8_next_0 : decode cX8_next 0 = .ok (.aload_n 0, 1) := by decide +kernel
theorem dX8_next_1 : decode cX8_next 1 = .ok (.getfield 40, 3) := by decide +kernel
theorem dX8_next_4 : decode cX8_next 4 = .ok (.aload_n 0, 1) := by decide +kernel
theorem dX8_next_5 : decode cX8_next 5 = .ok (.getfield 26, 3) := by decide +kernel
theorem dX8_next_8 : decode cX8_next 8 = .ok (.invokevirtual 168, 3) := by decide +kernel
theorem dX8_next_11 : decode cX8_next 11 = .ok (.aload_n 0, 1) := by decide +kernel
theorem dX8_next_12 : decode cX8_next 12 = .ok (.getfield 40, 3) := by decide +kernel
theorem dX8_next_15 : decode cX8_next 15 = .ok (.getfield 171, 3) := by decide +kernel
theorem dX8_next_18 : decode cX8_next 18 = .ok (.ifCond .ne 13, 3) := by decide +kernel
theorem dX8_next_21 : decode cX8_next 21 = .ok (.new 55, 3) := by decide +kernel
theorem dX8_next_24 : decode cX8_next 24 = .ok (.dup, 1) := by decide +kernel
theorem dX8_next_25 : decode cX8_next 25 = .ok (.ldc 172, 2) := by decide +kernel
theorem dX8_next_27 : decode cX8_next 27 = .ok (.invokespecial 59, 3) := by decide +kernel
theorem dX8_next_30 : decode cX8_next 30 = .ok (.athrow, 1) := by decide +kernel
theorem dX8_next_31 : decode cX8_next 31 = .ok (.aload_n 0, 1) := by decide +kernel
theorem dX8_next_32 : decode cX8_next 32 = .ok (.getfield 33, 3) := by decide +kernel
theorem dX8_next_35 : decode cX8_next 35 = .ok (.aload_n 0, 1) := by decide +kernel
theorem dX8_next_36 : decode cX8_next 36 = .ok (.getfield 26, 3) := by decide +kernel
theorem dX8_next_39 : decode cX8_next 39 = .ok (.invokevirtual 75, 3) := by decide +kernel
theorem dX8_next_42 : decode cX8_next 42 = .ok (.aload_n 0, 1) := by decide +kernel
theorem dX8_next_43 : decode cX8_next 43 = .ok (.getfield 26, 3) := by decide +kernel
theorem dX8_next_46 : decode cX8_next 46 = .ok (.getfield 86, 3) := by decide +kernel
theorem dX8_next_49 : decode cX8_next 49 = .ok (.iconst 1, 1) := by decide +kernel
theorem dX8_next_50 : decode cX8_next 50 = .ok (.iadd, 1) := by decide +kernel
theorem dX8_next_51 : decode cX8_next 51 = .ok (.istore_n 1, 1) := by decide +kernel
theorem dX8_next_52 : decode cX8_next 52 = .ok (.aload_n 0, 1) := by decide +kernel
theorem dX8_next_53 : decode cX8_next 53 = .ok (.getfield 26, 3) := by decide +kernel
theorem dX8_next_56 : decode cX8_next 56 = .ok (.iload_n 1, 1) := by decide +kernel
theorem dX8_next_57 : decode cX8_next 57 = .ok (.aload_n 0, 1) := by decide +kernel
theorem dX8_next_58 : decode cX8_next 58 = .ok (.getfield 40, 3) := by decide +kernel
theorem dX8_next_61 : decode cX8_next 61 = .ok (.getfield 171, 3) := by decide +kernel
theorem dX8_next_64 : decode cX8_next 64 = .ok (.if_icmp .ge 7, 3) := by decide +kernel
theorem dX8_next_67 : decode cX8_next 67 = .ok (.iload_n 1, 1) := by decide +kernel
theorem dX8_next_68 : decode cX8_next 68 = .ok (.goto 4, 3) := by decide +kernel
theorem dX8_next_71 : decode cX8_next 71 = .ok (.iconst 0, 1) := by decide +kernel
theorem dX8_next_72 : decode cX8_next 72 = .ok (.putfield 86, 3) := by decide +kernel
theorem dX8_next_75 : decode cX8_next 75 = .ok (.aload_n 0, 1) := by decide +kernel
theorem dX8_next_76 : decode cX8_next 76 = .ok (.getfield 26, 3) := by decide +kernel
theorem dX8_next_79 : decode cX8_next 79 = .ok (.getfield 86, 3) := by decide +kernel
theorem dX8_next_82 : decode cX8_next 82 = .ok (.ireturn, 1) := by decide +kernel
theorem dX8_erase_0 : decode cX8_erase 0 = .ok (.aload_n 0, 1) := by decide +kernel
theorem dX8_erase_1 : decode cX8_erase 1 = .ok (.getfield 26, 3) := by decide +kernel
theorem dX8_erase_4 : decode cX8_erase 4 = .ok (.invokevirtual 141, 3) := by decide +kernel
theorem dX8_erase_7 : decode cX8_erase 7 = .ok (.ifCond .ne 13, 3) := by decide +kernel
theorem dX8_erase_10 : decode cX8_erase 10 = .ok (.new 55, 3) := by decide +kernel
theorem dX8_erase_13 : decode cX8_erase 13 = .ok (.dup, 1) := by decide +kernel
theorem dX8_erase_14 : decode cX8_erase 14 = .ok (.ldc 174, 2) := by decide +kernel
theorem dX8_erase_16 : decode cX8_erase 16 = .ok (.invokespecial 59, 3) := by decide +kernel
theorem dX8_erase_19 : decode cX8_erase 19 = .ok (.athrow, 1) := by decide +kernel
theorem dX8_erase_20 : decode cX8_erase 20 = .ok (.aload_n 0, 1) := by decide +kernel
theorem dX8_erase_21 : decode cX8_erase 21 = .ok (.getfield 33, 3) := by decide +kernel
theorem dX8_erase_24 : decode cX8_erase 24 = .ok (.aload_n 0, 1) := by decide +kernel
theorem dX8_erase_25 : decode cX8_erase 25 = .ok (.getfield 26, 3) := by decide +kernel
theorem dX8_erase_28 : decode cX8_erase 28 = .ok (.invokevirtual 75, 3) := by decide +kernel
theorem dX8_erase_31 : decode cX8_erase 31 = .ok (.aload_n 0, 1) := by decide +kernel
theorem dX8_erase_32 : decode cX8_erase 32 = .ok (.getfield 26, 3) := by decide +kernel
theorem dX8_erase_35 : decode cX8_erase 35 = .ok (.invokevirtual 176, 3) := by decide +kernel
theorem dX8_erase_38 : decode cX8_erase 38 = .ok (.aload_n 0, 1) := by decide +kernel
theorem dX8_erase_39 : decode cX8_erase 39 = .ok (.getfield 26, 3) := by decide +kernel
theorem dX8_erase_42 : decode cX8_erase 42 = .ok (.invokevirtual 141, 3) := by decide +kernel
theorem dX8_erase_45 : decode cX8_erase 45 = .ok (.ireturn, 1) := by decide +kernel
theorem dX8_accept_0 : decode cX8_accept 0 = .ok (.aload_n 0, 1) := by decide +kernel
theorem dX8_accept_1 : decode cX8_accept 1 = .ok (.getfield 26, 3) := by decide +kernel
theorem dX8_accept_4 : decode cX8_accept 4 = .ok (.invokevirtual 141, 3) := by decide +kernel
theorem dX8_accept_7 : decode cX8_accept 7 = .ok (.ifCond .ne 13, 3) := by decide +kernel
theorem dX8_accept_10 : decode cX8_accept 10 = .ok (.new 55, 3) := by decide +kernel
theorem dX8_accept_13 : decode cX8_accept 13 = .ok (.dup, 1) := by decide +kernel
theorem dX8_accept_14 : decode cX8_accept 14 = .ok (.ldc 174, 2) := by decide +kernel
theorem dX8_accept_16 : decode cX8_accept 16 = .ok (.invokespecial 59, 3) := by decide +kernel
theorem dX8_accept_19 : decode cX8_accept 19 = .ok (.athrow, 1) := by decide +kernel
theorem dX8_accept_20 : decode cX8_accept 20 = .ok (.aload_n 0, 1) := by decide +kernel
theorem dX8_accept_21 : decode cX8_accept 21 = .ok (.getfield 26, 3) := by decide +kernel
theorem dX8_accept_24 : decode cX8_accept 24 = .ok (.getfield 179, 3) := by decide +kernel
theorem dX8_accept_27 : decode cX8_accept 27 = .ok (.iconst (-1), 1) := by decide +kernel
theorem dX8_accept_28 : decode cX8_accept 28 = .ok (.if_icmp .ne 28, 3) := by decide +kernel
theorem dX8_accept_31 : decode cX8_accept 31 = .ok (.aload_n 0, 1) := by decide +kernel
theorem dX8_accept_32 : decode cX8_accept 32 = .ok (.getfield 26, 3) := by decide +kernel
theorem dX8_accept_35 : decode cX8_accept 35 = .ok (.getfield 182, 3) := by decide +kernel
theorem dX8_accept_38 : decode cX8_accept 38 = .ok (.getfield 186, 3) := by decide +kernel
theorem dX8_accept_41 : decode cX8_accept 41 = .ok (.bipush 30, 2) := by decide +kernel
theorem dX8_accept_43 : decode cX8_accept 43 = .ok (.if_icmp .lt 13, 3) := by decide +kernel
theorem dX8_accept_46 : decode cX8_accept 46 = .ok (.new 55, 3) := by decide +kernel
theorem dX8_accept_49 : decode cX8_accept 49 = .ok (.dup, 1) := by decide +kernel
theorem dX8_accept_50 : decode cX8_accept 50 = .ok (.ldc 189, 2) := by decide +kernel
theorem dX8_accept_52 : decode cX8_accept 52 = .ok (.invokespecial 59, 3) := by decide +kernel
theorem dX8_accept_55 : decode cX8_accept 55 = .ok (.athrow, 1) := by decide +kernel
theorem dX8_accept_56 : decode cX8_accept 56 = .ok (.aload_n 0, 1) := by decide +kernel
theorem dX8_accept_57 : decode cX8_accept 57 = .ok (.getfield 33, 3) := by decide +kernel
theorem dX8_accept_60 : decode cX8_accept 60 = .ok (.aload_n 0, 1) := by decide +kernel
theorem dX8_accept_61 : decode cX8_accept 61 = .ok (.getfield 26, 3) := by decide +kernel
theorem dX8_accept_64 : decode cX8_accept 64 = .ok (.invokevirtual 75, 3) := by decide +kernel
theorem dX8_accept_67 : decode cX8_accept 67 = .ok (.aload_n 0, 1) := by decide +kernel
theorem dX8_accept_68 : decode cX8_accept 68 = .ok (.getfield 26, 3) := by decide +kernel
theorem dX8_accept_71 : decode cX8_accept 71 = .ok (.aload_n 0, 1) := by decide +kernel
theorem dX8_accept_72 : decode cX8_accept 72 = .ok (.invokevirtual 153, 3) := by decide +kernel
theorem dX8_accept_75 : decode cX8_accept 75 = .ok (.invokevirtual 191, 3) := by decide +kernel
theorem dX8_accept_78 : decode cX8_accept 78 = .ok (.aload_n 0, 1) := by decide +kernel
theorem dX8_accept_79 : decode cX8_accept 79 = .ok (.getfield 26, 3) := by decide +kernel
theorem dX8_accept_82 : decode cX8_accept 82 = .ok (.getfield 182, 3) := by decide +kernel
theorem dX8_accept_85 : decode cX8_accept 85 = .ok (.getfield 186, 3) := by decide +kernel
theorem dX8_accept_88 : decode cX8_accept 88 = .ok (.ireturn, 1) := by decide +kernel
theorem dX8_open_0 : decode cX8_open 0 = .ok (.aload_n 0, 1) := by decide +kernel
theorem dX8_open_1 : decode cX8_open 1 = .ok (.getfield 26, 3) := by decide +kernel
theorem dX8_open_4 : decode cX8_open 4 = .ok (.getfield 182, 3) := by decide +kernel
theorem dX8_open_7 : decode cX8_open 7 = .ok (.iload_n 1, 1) := by decide +kernel
theorem dX8_open_8 : decode cX8_open 8 = .ok (.invokevirtual 195, 3) := by decide +kernel
theorem dX8_open_11 : decode cX8_open 11 = .ok (.ifCond .ne 13, 3) := by decide +kernel
theorem dX8_open_14 : decode cX8_open 14 = .ok (.new 105, 3) := by decide +kernel
theorem dX8_open_17 : decode cX8_open 17 = .ok (.dup, 1) := by decide +kernel
theorem dX8_open_18 : decode cX8_open 18 = .ok (.ldc 196, 2) := by decide +kernel
theorem dX8_open_20 : decode cX8_open 20 = .ok (.invokespecial 109, 3) := by decide +kernel
theorem dX8_open_23 : decode cX8_open 23 = .ok (.athrow, 1) := by decide +kernel
theorem dX8_open_24 : decode cX8_open 24 = .ok (.aload_n 0, 1) := by decide +kernel
theorem dX8_open_25 : decode cX8_open 25 = .ok (.getfield 26, 3) := by decide +kernel
theorem dX8_open_28 : decode cX8_open 28 = .ok (.invokevirtual 141, 3) := by decide +kernel
theorem dX8_open_31 : decode cX8_open 31 = .ok (.ifCond .ne 14, 3) := by decide +kernel
theorem dX8_open_34 : decode cX8_open 34 = .ok (.aload_n 0, 1) := by decide +kernel
theorem dX8_open_35 : decode cX8_open 35 = .ok (.getfield 26, 3) := by decide +kernel
theorem dX8_open_38 : decode cX8_open 38 = .ok (.getfield 179, 3) := by decide +kernel
theorem dX8_open_41 : decode cX8_open 41 = .ok (.iconst (-1), 1) := by decide +kernel
theorem dX8_open_42 : decode cX8_open 42 = .ok (.if_icmp .eq 13, 3) := by decide +kernel
theorem dX8_open_45 : decode cX8_open 45 = .ok (.new 55, 3) := by decide +kernel
theorem dX8_open_48 : decode cX8_open 48 = .ok (.dup, 1) := by decide +kernel
theorem dX8_open_49 : decode cX8_open 49 = .ok (.ldc 198, 2) := by decide +kernel
theorem dX8_open_51 : decode cX8_open 51 = .ok (.invokespecial 59, 3) := by decide +kernel
theorem dX8_open_54 : decode cX8_open 54 = .ok (.athrow, 1) := by decide +kernel
theorem dX8_open_55 : decode cX8_open 55 = .ok (.aload_n 0, 1) := by decide +kernel
theorem dX8_open_56 : decode cX8_open 56 = .ok (.getfield 33, 3) := by decide +kernel
theorem dX8_open_59 : decode cX8_open 59 = .ok (.aload_n 0, 1) := by decide +kernel
theorem dX8_open_60 : decode cX8_open 60 = .ok (.getfield 26, 3) := by decide +kernel
theorem dX8_open_63 : decode cX8_open 63 = .ok (.invokevirtual 75, 3) := by decide +kernel
theorem dX8_open_66 : decode cX8_open 66 = .ok (.aload_n 0, 1) := by decide +kernel
theorem dX8_open_67 : decode cX8_open 67 = .ok (.getfield 26, 3) := by decide +kernel
theorem dX8_open_70 : decode cX8_open 70 = .ok (.iload_n 1, 1) := by decide +kernel
theorem dX8_open_71 : decode cX8_open 71 = .ok (.invokevirtual 200, 3) := by decide +kernel
theorem dX8_open_74 : decode cX8_open 74 = .ok (.aload_n 0, 1) := by decide +kernel
theorem dX8_open_75 : decode cX8_open 75 = .ok (.getfield 26, 3) := by decide +kernel
theorem dX8_open_78 : decode cX8_open 78 = .ok (.invokevirtual 141, 3) := by decide +kernel
theorem dX8_open_81 : decode cX8_open 81 = .ok (.ireturn, 1) := by decide +kernel
theorem dX8_setting_0 : decode cX8_setting 0 = .ok (.iload_n 1, 1) := by decide +kernel
theorem dX8_setting_1 : decode cX8_setting 1 = .ok (.ifCond .lt 9, 3) := by decide +kernel
theorem dX8_setting_4 : decode cX8_setting 4 = .ok (.iload_n 1, 1) := by decide +kernel
theorem dX8_setting_5 : decode cX8_setting 5 = .ok (.bipush 11, 2) := by decide +kernel
theorem dX8_setting_7 : decode cX8_setting 7 = .ok (.if_icmp .lt 13, 3) := by decide +kernel
theorem dX8_setting_10 : decode cX8_setting 10 = .ok (.new 44, 3) := by decide +kernel
theorem dX8_setting_13 : decode cX8_setting 13 = .ok (.dup, 1) := by decide +kernel
theorem dX8_setting_14 : decode cX8_setting 14 = .ok (.ldc 203, 2) := by decide +kernel
theorem dX8_setting_16 : decode cX8_setting 16 = .ok (.invokespecial 48, 3) := by decide +kernel
theorem dX8_setting_19 : decode cX8_setting 19 = .ok (.athrow, 1) := by decide +kernel
theorem dX8_setting_20 : decode cX8_setting 20 = .ok (.aload_n 0, 1) := by decide +kernel
theorem dX8_setting_21 : decode cX8_setting 21 = .ok (.iload_n 1, 1) := by decide +kernel
theorem dX8_setting_22 : decode cX8_setting 22 = .ok (.invokevirtual 205, 3) := by decide +kernel
theorem dX8_setting_25 : decode cX8_setting 25 = .ok (.ireturn, 1) := by decide +kernel
theorem dX8_display_0 : decode cX8_display 0 = .ok (.iload_n 1, 1) := by decide +kernel
theorem dX8_display_1 : decode cX8_display 1 = .ok (.ifCond .ge 13, 3) := by decide +kernel
theorem dX8_display_4 : decode cX8_display 4 = .ok (.new 44, 3) := by decide +kernel
theorem dX8_display_7 : decode cX8_display 7 = .ok (.dup, 1) := by decide +kernel
theorem dX8_display_8 : decode cX8_display 8 = .ok (.ldc 214, 2) := by decide +kernel
theorem dX8_display_10 : decode cX8_display 10 = .ok (.invokespecial 48, 3) := by decide +kernel
theorem dX8_display_13 : decode cX8_display 13 = .ok (.athrow, 1) := by decide +kernel
theorem dX8_display_14 : decode cX8_display 14 = .ok (.aload_n 0, 1) := by decide +kernel
theorem dX8_display_15 : decode cX8_display 15 = .ok (.invokevirtual 153, 3) := by decide +kernel
theorem dX8_display_18 : decode cX8_display 18 = .ok (.lstore_n 2, 1) := by decide +kernel
theorem dX8_display_19 : decode cX8_display 19 = .ok (.lload_n 2, 1) := by decide +kernel
theorem dX8_display_20 : decode cX8_display 20 = .ok (.iload_n 1, 1) := by decide +kernel
theorem dX8_display_21 : decode cX8_display 21 = .ok (.invokestatic 120, 3) := by decide +kernel
theorem dX8_display_24 : decode cX8_display 24 = .ok (.ifCond .eq 11, 3) := by decide +kernel
theorem dX8_display_27 : decode cX8_display 27 = .ok (.lload_n 2, 1) := by decide +kernel
theorem dX8_display_28 : decode cX8_display 28 = .ok (.iload_n 1, 1) := by decide +kernel
theorem dX8_display_29 : decode cX8_display 29 = .ok (.invokestatic 127, 3) := by decide +kernel
theorem dX8_display_32 : decode cX8_display 32 = .ok (.goto 4, 3) := by decide +kernel
theorem dX8_display_35 : decode cX8_display 35 = .ok (.iconst (-1), 1) := by decide +kernel
theorem dX8_display_36 : decode cX8_display 36 = .ok (.ireturn, 1) := by decide +kernel
theorem dX8_candidate_0 : decode cX8_candidate 0 = .ok (.aload_n 0, 1) := by decide +kernel
theorem dX8_candidate_1 : decode cX8_candidate 1 = .ok (.getfield 40, 3) := by decide +kernel
theorem dX8_candidate_4 : decode cX8_candidate 4 = .ok (.aload_n 0, 1) := by decide +kernel
theorem dX8_candidate_5 : decode cX8_candidate 5 = .ok (.getfield 26, 3) := by decide +kernel
theorem dX8_candidate_8 : decode cX8_candidate 8 = .ok (.invokevirtual 168, 3) := by decide +kernel
theorem dX8_candidate_11 : decode cX8_candidate 11 = .ok (.iload_n 1, 1) := by decide +kernel
theorem dX8_candidate_12 : decode cX8_candidate 12 = .ok (.ifCond .lt 14, 3) := by decide +kernel
theorem dX8_candidate_15 : decode cX8_candidate 15 = .ok (.iload_n 1, 1) := by decide +kernel
theorem dX8_candidate_16 : decode cX8_candidate 16 = .ok (.aload_n 0, 1) := by decide +kernel
theorem dX8_candidate_17 : decode cX8_candidate 17 = .ok (.getfield 40, 3) := by decide +kernel
theorem dX8_candidate_20 : decode cX8_candidate 20 = .ok (.getfield 171, 3) := by decide +kernel
theorem dX8_candidate_23 : decode cX8_candidate 23 = .ok (.if_icmp .lt 13, 3) := by decide +kernel
theorem dX8_candidate_26 : decode cX8_candidate 26 = .ok (.new 105, 3) := by decide +kernel
theorem dX8_candidate_29 : decode cX8_candidate 29 = .ok (.dup, 1) := by decide +kernel
theorem dX8_candidate_30 : decode cX8_candidate 30 = .ok (.ldc 216, 2) := by decide +kernel
theorem dX8_candidate_32 : decode cX8_candidate 32 = .ok (.invokespecial 109, 3) := by decide +kernel
theorem dX8_candidate_35 : decode cX8_candidate 35 = .ok (.athrow, 1) := by decide +kernel
theorem dX8_candidate_36 : decode cX8_candidate 36 = .ok (.aload_n 0, 1) := by decide +kernel
theorem dX8_candidate_37 : decode cX8_candidate 37 = .ok (.getfield 40, 3) := by decide +kernel
theorem dX8_candidate_40 : decode cX8_candidate 40 = .ok (.iload_n 1, 1) := by decide +kernel
theorem dX8_candidate_41 : decode cX8_candidate 41 = .ok (.invokevirtual 218, 3) := by decide +kernel
theorem dX8_candidate_44 : decode cX8_candidate 44 = .ok (.ireturn, 1) := by decide +kernel
theorem dX8_written_0 : decode cX8_written 0 = .ok (.aload_n 0, 1) := by decide +kernel
theorem dX8_written_1 : decode cX8_written 1 = .ok (.getfield 26, 3) := by decide +kernel
theorem dX8_written_4 : decode cX8_written 4 = .ok (.getfield 182, 3) := by decide +kernel
theorem dX8_written_7 : decode cX8_written 7 = .ok (.iload_n 1, 1) := by decide +kernel
theorem dX8_written_8 : decode cX8_written 8 = .ok (.invokevirtual 195, 3) := by decide +kernel
theorem dX8_written_11 : decode cX8_written 11 = .ok (.ifCond .ne 13, 3) := by decide +kernel
theorem dX8_written_14 : decode cX8_written 14 = .ok (.new 105, 3) := by decide +kernel
theorem dX8_written_17 : decode cX8_written 17 = .ok (.dup, 1) := by decide +kernel
theorem dX8_written_18 : decode cX8_written 18 = .ok (.ldc 196, 2) := by decide +kernel
theorem dX8_written_20 : decode cX8_written 20 = .ok (.invokespecial 109, 3) := by decide +kernel
theorem dX8_written_23 : decode cX8_written 23 = .ok (.athrow, 1) := by decide +kernel
theorem dX8_written_24 : decode cX8_written 24 = .ok (.aload_n 0, 1) := by decide +kernel
theorem dX8_written_25 : decode cX8_written 25 = .ok (.getfield 26, 3) := by decide +kernel
theorem dX8_written_28 : decode cX8_written 28 = .ok (.getfield 182, 3) := by decide +kernel
theorem dX8_written_31 : decode cX8_written 31 = .ok (.iload_n 1, 1) := by decide +kernel
theorem dX8_written_32 : decode cX8_written 32 = .ok (.invokevirtual 220, 3) := by decide +kernel
theorem dX8_written_35 : decode cX8_written 35 = .ok (.lstore_n 3, 1) := by decide +kernel
theorem dX8_written_36 : decode cX8_written 36 = .ok (.iload_n 2, 1) := by decide +kernel
theorem dX8_written_37 : decode cX8_written 37 = .ok (.iconst (-1), 1) := by decide +kernel
theorem dX8_written_38 : decode cX8_written 38 = .ok (.if_icmp .ne 8, 3) := by decide +kernel
theorem dX8_written_41 : decode cX8_written 41 = .ok (.lload_n 3, 1) := by decide +kernel
theorem dX8_written_42 : decode cX8_written 42 = .ok (.invokestatic 221, 3) := by decide +kernel
theorem dX8_written_45 : decode cX8_written 45 = .ok (.ireturn, 1) := by decide +kernel
theorem dX8_written_46 : decode cX8_written 46 = .ok (.lload_n 3, 1) := by decide +kernel
theorem dX8_written_47 : decode cX8_written 47 = .ok (.iload_n 2, 1) := by decide +kernel
theorem dX8_written_48 : decode cX8_written 48 = .ok (.invokestatic 120, 3) := by decide +kernel
theorem dX8_written_51 : decode cX8_written 51 = .ok (.ifCond .ne 13, 3) := by decide +kernel
theorem dX8_written_54 : decode cX8_written 54 = .ok (.new 105, 3) := by decide +kernel
theorem dX8_written_57 : decode cX8_written 57 = .ok (.dup, 1) := by decide +kernel
theorem dX8_written_58 : decode cX8_written 58 = .ok (.ldc 125, 2) := by decide +kernel
theorem dX8_written_60 : decode cX8_written 60 = .ok (.invokespecial 109, 3) := by decide +kernel
theorem dX8_written_63 : decode cX8_written 63 = .ok (.athrow, 1) := by decide +kernel
theorem dX8_written_64 : decode cX8_written 64 = .ok (.lload_n 3, 1) := by decide +kernel
theorem dX8_written_65 : decode cX8_written 65 = .ok (.iload_n 2, 1) := by decide +kernel
theorem dX8_written_66 : decode cX8_written 66 = .ok (.invokestatic 127, 3) := by decide +kernel
theorem dX8_written_69 : decode cX8_written 69 = .ok (.ireturn, 1) := by decide +kernel
theorem dX8_steps_0 : decode cX8_steps 0 = .ok (.aload_n 0, 1) := by decide +kernel
theorem dX8_steps_1 : decode cX8_steps 1 = .ok (.getfield 26, 3) := by decide +kernel
theorem dX8_steps_4 : decode cX8_steps 4 = .ok (.getfield 79, 3) := by decide +kernel
theorem dX8_steps_7 : decode cX8_steps 7 = .ok (.iload_n 1, 1) := by decide +kernel
theorem dX8_steps_8 : decode cX8_steps 8 = .ok (.invokevirtual 101, 3) := by decide +kernel
theorem dX8_steps_11 : decode cX8_steps 11 = .ok (.ifCond .ne 13, 3) := by decide +kernel
theorem dX8_steps_14 : decode cX8_steps 14 = .ok (.new 105, 3) := by decide +kernel
theorem dX8_steps_17 : decode cX8_steps 17 = .ok (.dup, 1) := by decide +kernel
theorem dX8_steps_18 : decode cX8_steps 18 = .ok (.ldc 107, 2) := by decide +kernel
theorem dX8_steps_20 : decode cX8_steps 20 = .ok (.invokespecial 109, 3) := by decide +kernel
theorem dX8_steps_23 : decode cX8_steps 23 = .ok (.athrow, 1) := by decide +kernel
theorem dX8_steps_24 : decode cX8_steps 24 = .ok (.aload_n 0, 1) := by decide +kernel
theorem dX8_steps_25 : decode cX8_steps 25 = .ok (.getfield 26, 3) := by decide +kernel
theorem dX8_steps_28 : decode cX8_steps 28 = .ok (.getfield 79, 3) := by decide +kernel
theorem dX8_steps_31 : decode cX8_steps 31 = .ok (.iload_n 1, 1) := by decide +kernel
theorem dX8_steps_32 : decode cX8_steps 32 = .ok (.invokevirtual 225, 3) := by decide +kernel
theorem dX8_steps_35 : decode cX8_steps 35 = .ok (.ireturn, 1) := by decide +kernel
theorem dX8_presses_0 : decode cX8_presses 0 = .ok (.aload_n 0, 1) := by decide +kernel
theorem dX8_presses_1 : decode cX8_presses 1 = .ok (.getfield 26, 3) := by decide +kernel
theorem dX8_presses_4 : decode cX8_presses 4 = .ok (.getfield 79, 3) := by decide +kernel
theorem dX8_presses_7 : decode cX8_presses 7 = .ok (.iload_n 1, 1) := by decide +kernel
theorem dX8_presses_8 : decode cX8_presses 8 = .ok (.invokevirtual 101, 3) := by decide +kernel
theorem dX8_presses_11 : decode cX8_presses 11 = .ok (.ifCond .ne 13, 3) := by decide +kernel
theorem dX8_presses_14 : decode cX8_presses 14 = .ok (.new 105, 3) := by decide +kernel
theorem dX8_presses_17 : decode cX8_presses 17 = .ok (.dup, 1) := by decide +kernel
theorem dX8_presses_18 : decode cX8_presses 18 = .ok (.ldc 107, 2) := by decide +kernel
theorem dX8_presses_20 : decode cX8_presses 20 = .ok (.invokespecial 109, 3) := by decide +kernel
theorem dX8_presses_23 : decode cX8_presses 23 = .ok (.athrow, 1) := by decide +kernel
theorem dX8_presses_24 : decode cX8_presses 24 = .ok (.iload_n 2, 1) := by decide +kernel
theorem dX8_presses_25 : decode cX8_presses 25 = .ok (.ifCond .eq 17, 3) := by decide +kernel
theorem dX8_presses_28 : decode cX8_presses 28 = .ok (.aload_n 0, 1) := by decide +kernel
theorem dX8_presses_29 : decode cX8_presses 29 = .ok (.getfield 26, 3) := by decide +kernel
theorem dX8_presses_32 : decode cX8_presses 32 = .ok (.getfield 79, 3) := by decide +kernel
theorem dX8_presses_35 : decode cX8_presses 35 = .ok (.iload_n 1, 1) := by decide +kernel
theorem dX8_presses_36 : decode cX8_presses 36 = .ok (.invokevirtual 228, 3) := by decide +kernel
theorem dX8_presses_39 : decode cX8_presses 39 = .ok (.goto 14, 3) := by decide +kernel
theorem dX8_presses_42 : decode cX8_presses 42 = .ok (.aload_n 0, 1) := by decide +kernel
theorem dX8_presses_43 : decode cX8_presses 43 = .ok (.getfield 26, 3) := by decide +kernel
theorem dX8_presses_46 : decode cX8_presses 46 = .ok (.getfield 79, 3) := by decide +kernel
theorem dX8_presses_49 : decode cX8_presses 49 = .ok (.iload_n 1, 1) := by decide +kernel
theorem dX8_presses_50 : decode cX8_presses 50 = .ok (.invokevirtual 231, 3) := by decide +kernel
theorem dX8_presses_53 : decode cX8_presses 53 = .ok (.ireturn, 1) := by decide +kernel
theorem dX8_clashing_0 : decode cX8_clashing 0 = .ok (.aload_n 0, 1) := by decide +kernel
theorem dX8_clashing_1 : decode cX8_clashing 1 = .ok (.getfield 26, 3) := by decide +kernel
theorem dX8_clashing_4 : decode cX8_clashing 4 = .ok (.getfield 79, 3) := by decide +kernel
theorem dX8_clashing_7 : decode cX8_clashing 7 = .ok (.invokevirtual 234, 3) := by decide +kernel
theorem dX8_clashing_10 : decode cX8_clashing 10 = .ok (.ireturn, 1) := by decide +kernel
theorem dX8_saving_0 : decode cX8_saving 0 = .ok (.aload_n 0, 1) := by decide +kernel
theorem dX8_saving_1 : decode cX8_saving 1 = .ok (.getfield 26, 3) := by decide +kernel
theorem dX8_saving_4 : decode cX8_saving 4 = .ok (.getfield 79, 3) := by decide +kernel
theorem dX8_saving_7 : decode cX8_saving 7 = .ok (.invokevirtual 237, 3) := by decide +kernel
theorem dX8_saving_10 : decode cX8_saving 10 = .ok (.dreturn, 1) := by decide +kernel
theorem dX8_shortest_0 : decode cX8_shortest 0 = .ok (.aload_n 0, 1) := by decide +kernel
theorem dX8_shortest_1 : decode cX8_shortest 1 = .ok (.getfield 26, 3) := by decide +kernel
theorem dX8_shortest_4 : decode cX8_shortest 4 = .ok (.getfield 79, 3) := by decide +kernel
theorem dX8_shortest_7 : decode cX8_shortest 7 = .ok (.iload_n 1, 1) := by decide +kernel
theorem dX8_shortest_8 : decode cX8_shortest 8 = .ok (.invokevirtual 101, 3) := by decide +kernel
theorem dX8_shortest_11 : decode cX8_shortest 11 = .ok (.ifCond .ne 13, 3) := by decide +kernel
theorem dX8_shortest_14 : decode cX8_shortest 14 = .ok (.new 105, 3) := by decide +kernel
theorem dX8_shortest_17 : decode cX8_shortest 17 = .ok (.dup, 1) := by decide +kernel
theorem dX8_shortest_18 : decode cX8_shortest 18 = .ok (.ldc 107, 2) := by decide +kernel
theorem dX8_shortest_20 : decode cX8_shortest 20 = .ok (.invokespecial 109, 3) := by decide +kernel
theorem dX8_shortest_23 : decode cX8_shortest 23 = .ok (.athrow, 1) := by decide +kernel
theorem dX8_shortest_24 : decode cX8_shortest 24 = .ok (.aload_n 0, 1) := by decide +kernel
theorem dX8_shortest_25 : decode cX8_shortest 25 = .ok (.getfield 26, 3) := by decide +kernel
theorem dX8_shortest_28 : decode cX8_shortest 28 = .ok (.getfield 79, 3) := by decide +kernel
theorem dX8_shortest_31 : decode cX8_shortest 31 = .ok (.iload_n 1, 1) := by decide +kernel
theorem dX8_shortest_32 : decode cX8_shortest 32 = .ok (.invokevirtual 241, 3) := by decide +kernel
theorem dX8_shortest_35 : decode cX8_shortest 35 = .ok (.lstore_n 2, 1) := by decide +kernel
theorem dX8_shortest_36 : decode cX8_shortest 36 = .ok (.lload_n 2, 1) := by decide +kernel
theorem dX8_shortest_37 : decode cX8_shortest 37 = .ok (.invokestatic 221, 3) := by decide +kernel
theorem dX8_shortest_40 : decode cX8_shortest 40 = .ok (.istore 4, 2) := by decide +kernel
theorem dX8_shortest_42 : decode cX8_shortest 42 = .ok (.iconst 1, 1) := by decide +kernel
theorem dX8_shortest_43 : decode cX8_shortest 43 = .ok (.istore 5, 2) := by decide +kernel
theorem dX8_shortest_45 : decode cX8_shortest 45 = .ok (.iload 5, 2) := by decide +kernel
theorem dX8_shortest_47 : decode cX8_shortest 47 = .ok (.iload 4, 2) := by decide +kernel
theorem dX8_shortest_49 : decode cX8_shortest 49 = .ok (.if_icmp .gt 32, 3) := by decide +kernel
theorem dX8_shortest_52 : decode cX8_shortest 52 = .ok (.aload_n 0, 1) := by decide +kernel
theorem dX8_shortest_53 : decode cX8_shortest 53 = .ok (.getfield 26, 3) := by decide +kernel
theorem dX8_shortest_56 : decode cX8_shortest 56 = .ok (.getfield 79, 3) := by decide +kernel
theorem dX8_shortest_59 : decode cX8_shortest 59 = .ok (.lload_n 2, 1) := by decide +kernel
theorem dX8_shortest_60 : decode cX8_shortest 60 = .ok (.iload 5, 2) := by decide +kernel
theorem dX8_shortest_62 : decode cX8_shortest 62 = .ok (.invokestatic 157, 3) := by decide +kernel
theorem dX8_shortest_65 : decode cX8_shortest 65 = .ok (.invokestatic 244, 3) := by decide +kernel
theorem dX8_shortest_68 : decode cX8_shortest 68 = .ok (.iload_n 1, 1) := by decide +kernel
theorem dX8_shortest_69 : decode cX8_shortest 69 = .ok (.if_icmp .ne 6, 3) := by decide +kernel
theorem dX8_shortest_72 : decode cX8_shortest 72 = .ok (.iload 5, 2) := by decide +kernel
theorem dX8_shortest_74 : decode cX8_shortest 74 = .ok (.ireturn, 1) := by decide +kernel
theorem dX8_shortest_75 : decode cX8_shortest 75 = .ok (.iinc 5 1, 3) := by decide +kernel
theorem dX8_shortest_78 : decode cX8_shortest 78 = .ok (.goto (-33), 3) := by decide +kernel
theorem dX8_shortest_81 : decode cX8_shortest 81 = .ok (.iconst (-1), 1) := by decide +kernel
theorem dX8_shortest_82 : decode cX8_shortest 82 = .ok (.ireturn, 1) := by decide +kernel
theorem dX8_undo_0 : decode cX8_undo 0 = .ok (.aload_n 0, 1) := by decide +kernel
theorem dX8_undo_1 : decode cX8_undo 1 = .ok (.getfield 33, 3) := by decide +kernel
theorem dX8_undo_4 : decode cX8_undo 4 = .ok (.getfield 248, 3) := by decide +kernel
theorem dX8_undo_7 : decode cX8_undo 7 = .ok (.ifCond .ne 13, 3) := by decide +kernel
theorem dX8_undo_10 : decode cX8_undo 10 = .ok (.new 55, 3) := by decide +kernel
theorem dX8_undo_13 : decode cX8_undo 13 = .ok (.dup, 1) := by decide +kernel
theorem dX8_undo_14 : decode cX8_undo 14 = .ok (.ldc 249, 2) := by decide +kernel
theorem dX8_undo_16 : decode cX8_undo 16 = .ok (.invokespecial 59, 3) := by decide +kernel
theorem dX8_undo_19 : decode cX8_undo 19 = .ok (.athrow, 1) := by decide +kernel
theorem dX8_undo_20 : decode cX8_undo 20 = .ok (.aload_n 0, 1) := by decide +kernel
theorem dX8_undo_21 : decode cX8_undo 21 = .ok (.getfield 33, 3) := by decide +kernel
theorem dX8_undo_24 : decode cX8_undo 24 = .ok (.aload_n 0, 1) := by decide +kernel
theorem dX8_undo_25 : decode cX8_undo 25 = .ok (.getfield 26, 3) := by decide +kernel
theorem dX8_undo_28 : decode cX8_undo 28 = .ok (.invokevirtual 251, 3) := by decide +kernel
theorem dX8_undo_31 : decode cX8_undo 31 = .ok (.aload_n 0, 1) := by decide +kernel
theorem dX8_undo_32 : decode cX8_undo 32 = .ok (.getfield 33, 3) := by decide +kernel
theorem dX8_undo_35 : decode cX8_undo 35 = .ok (.getfield 248, 3) := by decide +kernel
theorem dX8_undo_38 : decode cX8_undo 38 = .ok (.ireturn, 1) := by decide +kernel
theorem dX8_digest_0 : decode cX8_digest 0 = .ok (.ldc2_w 254, 3) := by decide +kernel
theorem dX8_digest_3 : decode cX8_digest 3 = .ok (.aload_n 0, 1) := by decide +kernel
theorem dX8_digest_4 : decode cX8_digest 4 = .ok (.getfield 10, 3) := by decide +kernel
theorem dX8_digest_7 : decode cX8_digest 7 = .ok (.getfield 64, 3) := by decide +kernel
theorem dX8_digest_10 : decode cX8_digest 10 = .ok (.invokestatic 256, 3) := by decide +kernel
theorem dX8_digest_13 : decode cX8_digest 13 = .ok (.lstore_n 1, 1) := by decide +kernel
theorem dX8_digest_14 : decode cX8_digest 14 = .ok (.iconst 0, 1) := by decide +kernel
theorem dX8_digest_15 : decode cX8_digest 15 = .ok (.istore_n 3, 1) := by decide +kernel
theorem dX8_digest_16 : decode cX8_digest 16 = .ok (.iload_n 3, 1) := by decide +kernel
theorem dX8_digest_17 : decode cX8_digest 17 = .ok (.bipush 11, 2) := by decide +kernel
theorem dX8_digest_19 : decode cX8_digest 19 = .ok (.if_icmp .ge 19, 3) := by decide +kernel
theorem dX8_digest_22 : decode cX8_digest 22 = .ok (.lload_n 1, 1) := by decide +kernel
theorem dX8_digest_23 : decode cX8_digest 23 = .ok (.aload_n 0, 1) := by decide +kernel
theorem dX8_digest_24 : decode cX8_digest 24 = .ok (.iload_n 3, 1) := by decide +kernel
theorem dX8_digest_25 : decode cX8_digest 25 = .ok (.invokevirtual 205, 3) := by decide +kernel
theorem dX8_digest_28 : decode cX8_digest 28 = .ok (.invokestatic 256, 3) := by decide +kernel
theorem dX8_digest_31 : decode cX8_digest 31 = .ok (.lstore_n 1, 1) := by decide +kernel
theorem dX8_digest_32 : decode cX8_digest 32 = .ok (.iinc 3 1, 3) := by decide +kernel
theorem dX8_digest_35 : decode cX8_digest 35 = .ok (.goto (-19), 3) := by decide +kernel
theorem dX8_digest_38 : decode cX8_digest 38 = .ok (.iconst 0, 1) := by decide +kernel
theorem dX8_digest_39 : decode cX8_digest 39 = .ok (.istore_n 3, 1) := by decide +kernel
theorem dX8_digest_40 : decode cX8_digest 40 = .ok (.iload_n 3, 1) := by decide +kernel
theorem dX8_digest_41 : decode cX8_digest 41 = .ok (.aload_n 0, 1) := by decide +kernel
theorem dX8_digest_42 : decode cX8_digest 42 = .ok (.getfield 26, 3) := by decide +kernel
theorem dX8_digest_45 : decode cX8_digest 45 = .ok (.getfield 79, 3) := by decide +kernel
theorem dX8_digest_48 : decode cX8_digest 48 = .ok (.getfield 89, 3) := by decide +kernel
theorem dX8_digest_51 : decode cX8_digest 51 = .ok (.if_icmp .ge 16, 3) := by decide +kernel
theorem dX8_digest_54 : decode cX8_digest 54 = .ok (.aload_n 0, 1) := by decide +kernel
theorem dX8_digest_55 : decode cX8_digest 55 = .ok (.lload_n 1, 1) := by decide +kernel
theorem dX8_digest_56 : decode cX8_digest 56 = .ok (.iload_n 3, 1) := by decide +kernel
theorem dX8_digest_57 : decode cX8_digest 57 = .ok (.invokevirtual 259, 3) := by decide +kernel
theorem dX8_digest_60 : decode cX8_digest 60 = .ok (.lstore_n 1, 1) := by decide +kernel
theorem dX8_digest_61 : decode cX8_digest 61 = .ok (.iinc 3 1, 3) := by decide +kernel
theorem dX8_digest_64 : decode cX8_digest 64 = .ok (.goto (-24), 3) := by decide +kernel
theorem dX8_digest_67 : decode cX8_digest 67 = .ok (.aload_n 0, 1) := by decide +kernel
theorem dX8_digest_68 : decode cX8_digest 68 = .ok (.getfield 26, 3) := by decide +kernel
theorem dX8_digest_71 : decode cX8_digest 71 = .ok (.invokevirtual 141, 3) := by decide +kernel
theorem dX8_digest_74 : decode cX8_digest 74 = .ok (.istore_n 3, 1) := by decide +kernel
theorem dX8_digest_75 : decode cX8_digest 75 = .ok (.iconst 0, 1) := by decide +kernel
theorem dX8_digest_76 : decode cX8_digest 76 = .ok (.istore 4, 2) := by decide +kernel
theorem dX8_digest_78 : decode cX8_digest 78 = .ok (.iload 4, 2) := by decide +kernel
theorem dX8_digest_80 : decode cX8_digest 80 = .ok (.iload_n 3, 1) := by decide +kernel
theorem dX8_digest_81 : decode cX8_digest 81 = .ok (.if_icmp .ge 20, 3) := by decide +kernel
theorem dX8_digest_84 : decode cX8_digest 84 = .ok (.lload_n 1, 1) := by decide +kernel
theorem dX8_digest_85 : decode cX8_digest 85 = .ok (.aload_n 0, 1) := by decide +kernel
theorem dX8_digest_86 : decode cX8_digest 86 = .ok (.iload 4, 2) := by decide +kernel
theorem dX8_digest_88 : decode cX8_digest 88 = .ok (.invokevirtual 211, 3) := by decide +kernel
theorem dX8_digest_91 : decode cX8_digest 91 = .ok (.invokestatic 256, 3) := by decide +kernel
theorem dX8_digest_94 : decode cX8_digest 94 = .ok (.lstore_n 1, 1) := by decide +kernel
theorem dX8_digest_95 : decode cX8_digest 95 = .ok (.iinc 4 1, 3) := by decide +kernel
theorem dX8_digest_98 : decode cX8_digest 98 = .ok (.goto (-20), 3) := by decide +kernel
theorem dX8_digest_101 : decode cX8_digest 101 = .ok (.lload_n 1, 1) := by decide +kernel
theorem dX8_digest_102 : decode cX8_digest 102 = .ok (.aload_n 0, 1) := by decide +kernel
theorem dX8_digest_103 : decode cX8_digest 103 = .ok (.invokevirtual 153, 3) := by decide +kernel
theorem dX8_digest_106 : decode cX8_digest 106 = .ok (.invokestatic 262, 3) := by decide +kernel
theorem dX8_digest_109 : decode cX8_digest 109 = .ok (.lstore_n 1, 1) := by decide +kernel
theorem dX8_digest_110 : decode cX8_digest 110 = .ok (.iconst 0, 1) := by decide +kernel
theorem dX8_digest_111 : decode cX8_digest 111 = .ok (.istore 4, 2) := by decide +kernel
theorem dX8_digest_113 : decode cX8_digest 113 = .ok (.iload 4, 2) := by decide +kernel
theorem dX8_digest_115 : decode cX8_digest 115 = .ok (.aload_n 0, 1) := by decide +kernel
theorem dX8_digest_116 : decode cX8_digest 116 = .ok (.getfield 26, 3) := by decide +kernel
theorem dX8_digest_119 : decode cX8_digest 119 = .ok (.getfield 182, 3) := by decide +kernel
theorem dX8_digest_122 : decode cX8_digest 122 = .ok (.getfield 186, 3) := by decide +kernel
theorem dX8_digest_125 : decode cX8_digest 125 = .ok (.if_icmp .ge 40, 3) := by decide +kernel
theorem dX8_digest_128 : decode cX8_digest 128 = .ok (.aload_n 0, 1) := by decide +kernel
theorem dX8_digest_129 : decode cX8_digest 129 = .ok (.getfield 26, 3) := by decide +kernel
theorem dX8_digest_132 : decode cX8_digest 132 = .ok (.getfield 182, 3) := by decide +kernel
theorem dX8_digest_135 : decode cX8_digest 135 = .ok (.iload 4, 2) := by decide +kernel
theorem dX8_digest_137 : decode cX8_digest 137 = .ok (.invokevirtual 220, 3) := by decide +kernel
theorem dX8_digest_140 : decode cX8_digest 140 = .ok (.lstore 5, 2) := by decide +kernel
theorem dX8_digest_142 : decode cX8_digest 142 = .ok (.lload_n 1, 1) := by decide +kernel
theorem dX8_digest_143 : decode cX8_digest 143 = .ok (.lload 5, 2) := by decide +kernel
theorem dX8_digest_145 : decode cX8_digest 145 = .ok (.invokestatic 221, 3) := by decide +kernel
theorem dX8_digest_148 : decode cX8_digest 148 = .ok (.invokestatic 256, 3) := by decide +kernel
theorem dX8_digest_151 : decode cX8_digest 151 = .ok (.lstore_n 1, 1) := by decide +kernel
theorem dX8_digest_152 : decode cX8_digest 152 = .ok (.lload_n 1, 1) := by decide +kernel
theorem dX8_digest_153 : decode cX8_digest 153 = .ok (.lload 5, 2) := by decide +kernel
theorem dX8_digest_155 : decode cX8_digest 155 = .ok (.invokestatic 262, 3) := by decide +kernel
theorem dX8_digest_158 : decode cX8_digest 158 = .ok (.lstore_n 1, 1) := by decide +kernel
theorem dX8_digest_159 : decode cX8_digest 159 = .ok (.iinc 4 1, 3) := by decide +kernel
theorem dX8_digest_162 : decode cX8_digest 162 = .ok (.goto (-49), 3) := by decide +kernel
theorem dX8_digest_165 : decode cX8_digest 165 = .ok (.lload_n 1, 1) := by decide +kernel
theorem dX8_digest_166 : decode cX8_digest 166 = .ok (.aload_n 0, 1) := by decide +kernel
theorem dX8_digest_167 : decode cX8_digest 167 = .ok (.getfield 33, 3) := by decide +kernel
theorem dX8_digest_170 : decode cX8_digest 170 = .ok (.getfield 248, 3) := by decide +kernel
theorem dX8_digest_173 : decode cX8_digest 173 = .ok (.invokestatic 256, 3) := by decide +kernel
theorem dX8_digest_176 : decode cX8_digest 176 = .ok (.lreturn, 1) := by decide +kernel
theorem dX8_mixedWord_0 : decode cX8_mixedWord 0 = .ok (.lload_n 1, 1) := by decide +kernel
theorem dX8_mixedWord_1 : decode cX8_mixedWord 1 = .ok (.lstore 4, 2) := by decide +kernel
theorem dX8_mixedWord_3 : decode cX8_mixedWord 3 = .ok (.iconst 0, 1) := by decide +kernel
theorem dX8_mixedWord_4 : decode cX8_mixedWord 4 = .ok (.istore 6, 2) := by decide +kernel
theorem dX8_mixedWord_6 : decode cX8_mixedWord 6 = .ok (.iload 6, 2) := by decide +kernel
theorem dX8_mixedWord_8 : decode cX8_mixedWord 8 = .ok (.iconst 5, 1) := by decide +kernel
theorem dX8_mixedWord_9 : decode cX8_mixedWord 9 = .ok (.if_icmp .ge 29, 3) := by decide +kernel
theorem dX8_mixedWord_12 : decode cX8_mixedWord 12 = .ok (.lload 4, 2) := by decide +kernel
theorem dX8_mixedWord_14 : decode cX8_mixedWord 14 = .ok (.aload_n 0, 1) := by decide +kernel
theorem dX8_mixedWord_15 : decode cX8_mixedWord 15 = .ok (.getfield 26, 3) := by decide +kernel
theorem dX8_mixedWord_18 : decode cX8_mixedWord 18 = .ok (.getfield 79, 3) := by decide +kernel
theorem dX8_mixedWord_21 : decode cX8_mixedWord 21 = .ok (.iload_n 3, 1) := by decide +kernel
theorem dX8_mixedWord_22 : decode cX8_mixedWord 22 = .ok (.iload 6, 2) := by decide +kernel
theorem dX8_mixedWord_24 : decode cX8_mixedWord 24 = .ok (.invokevirtual 112, 3) := by decide +kernel
theorem dX8_mixedWord_27 : decode cX8_mixedWord 27 = .ok (.invokestatic 256, 3) := by decide +kernel
theorem dX8_mixedWord_30 : decode cX8_mixedWord 30 = .ok (.lstore 4, 2) := by decide +kernel
theorem dX8_mixedWord_32 : decode cX8_mixedWord 32 = .ok (.iinc 6 1, 3) := by decide +kernel
theorem dX8_mixedWord_35 : decode cX8_mixedWord 35 = .ok (.goto (-29), 3) := by decide +kernel
theorem dX8_mixedWord_38 : decode cX8_mixedWord 38 = .ok (.lload 4, 2) := by decide +kernel
theorem dX8_mixedWord_40 : decode cX8_mixedWord 40 = .ok (.aload_n 0, 1) := by decide +kernel
theorem dX8_mixedWord_41 : decode cX8_mixedWord 41 = .ok (.getfield 26, 3) := by decide +kernel
theorem dX8_mixedWord_44 : decode cX8_mixedWord 44 = .ok (.getfield 79, 3) := by decide +kernel
theorem dX8_mixedWord_47 : decode cX8_mixedWord 47 = .ok (.iload_n 3, 1) := by decide +kernel
theorem dX8_mixedWord_48 : decode cX8_mixedWord 48 = .ok (.invokevirtual 116, 3) := by decide +kernel
theorem dX8_mixedWord_51 : decode cX8_mixedWord 51 = .ok (.invokestatic 262, 3) := by decide +kernel
theorem dX8_mixedWord_54 : decode cX8_mixedWord 54 = .ok (.lstore 4, 2) := by decide +kernel
theorem dX8_mixedWord_56 : decode cX8_mixedWord 56 = .ok (.lload 4, 2) := by decide +kernel
theorem dX8_mixedWord_58 : decode cX8_mixedWord 58 = .ok (.aload_n 0, 1) := by decide +kernel
theorem dX8_mixedWord_59 : decode cX8_mixedWord 59 = .ok (.getfield 26, 3) := by decide +kernel
theorem dX8_mixedWord_62 : decode cX8_mixedWord 62 = .ok (.getfield 79, 3) := by decide +kernel
theorem dX8_mixedWord_65 : decode cX8_mixedWord 65 = .ok (.iload_n 3, 1) := by decide +kernel
theorem dX8_mixedWord_66 : decode cX8_mixedWord 66 = .ok (.invokevirtual 225, 3) := by decide +kernel
theorem dX8_mixedWord_69 : decode cX8_mixedWord 69 = .ok (.invokestatic 256, 3) := by decide +kernel
theorem dX8_mixedWord_72 : decode cX8_mixedWord 72 = .ok (.lreturn, 1) := by decide +kernel
theorem dX8_mixedLetters_0 : decode cX8_mixedLetters 0 = .ok (.lload_n 0, 1) := by decide +kernel
theorem dX8_mixedLetters_1 : decode cX8_mixedLetters 1 = .ok (.lstore 4, 2) := by decide +kernel
theorem dX8_mixedLetters_3 : decode cX8_mixedLetters 3 = .ok (.lload_n 2, 1) := by decide +kernel
theorem dX8_mixedLetters_4 : decode cX8_mixedLetters 4 = .ok (.invokestatic 221, 3) := by decide +kernel
theorem dX8_mixedLetters_7 : decode cX8_mixedLetters 7 = .ok (.istore 6, 2) := by decide +kernel
theorem dX8_mixedLetters_9 : decode cX8_mixedLetters 9 = .ok (.iconst 0, 1) := by decide +kernel
theorem dX8_mixedLetters_10 : decode cX8_mixedLetters 10 = .ok (.istore 7, 2) := by decide +kernel
theorem dX8_mixedLetters_12 : decode cX8_mixedLetters 12 = .ok (.iload 7, 2) := by decide +kernel
theorem dX8_mixedLetters_14 : decode cX8_mixedLetters 14 = .ok (.iload 6, 2) := by decide +kernel
theorem dX8_mixedLetters_16 : decode cX8_mixedLetters 16 = .ok (.if_icmp .ge 22, 3) := by decide +kernel
theorem dX8_mixedLetters_19 : decode cX8_mixedLetters 19 = .ok (.lload 4, 2) := by decide +kernel
theorem dX8_mixedLetters_21 : decode cX8_mixedLetters 21 = .ok (.lload_n 2, 1) := by decide +kernel
theorem dX8_mixedLetters_22 : decode cX8_mixedLetters 22 = .ok (.iload 7, 2) := by decide +kernel
theorem dX8_mixedLetters_24 : decode cX8_mixedLetters 24 = .ok (.invokestatic 127, 3) := by decide +kernel
theorem dX8_mixedLetters_27 : decode cX8_mixedLetters 27 = .ok (.invokestatic 256, 3) := by decide +kernel
theorem dX8_mixedLetters_30 : decode cX8_mixedLetters 30 = .ok (.lstore 4, 2) := by decide +kernel
theorem dX8_mixedLetters_32 : decode cX8_mixedLetters 32 = .ok (.iinc 7 1, 3) := by decide +kernel
theorem dX8_mixedLetters_35 : decode cX8_mixedLetters 35 = .ok (.goto (-23), 3) := by decide +kernel
theorem dX8_mixedLetters_38 : decode cX8_mixedLetters 38 = .ok (.lload 4, 2) := by decide +kernel
theorem dX8_mixedLetters_40 : decode cX8_mixedLetters 40 = .ok (.lreturn, 1) := by decide +kernel
theorem dX8_mixed_0 : decode cX8_mixed 0 = .ok (.ldc2_w 266, 3) := by decide +kernel
theorem dX8_mixed_3 : decode cX8_mixed 3 = .ok (.lload_n 0, 1) := by decide +kernel
theorem dX8_mixed_4 : decode cX8_mixed 4 = .ok (.lmul, 1) := by decide +kernel
theorem dX8_mixed_5 : decode cX8_mixed 5 = .ok (.iload_n 2, 1) := by decide +kernel
theorem dX8_mixed_6 : decode cX8_mixed 6 = .ok (.i2l, 1) := by decide +kernel
theorem dX8_mixed_7 : decode cX8_mixed 7 = .ok (.ladd, 1) := by decide +kernel
theorem dX8_mixed_8 : decode cX8_mixed 8 = .ok (.lreturn, 1) := by decide +kernel
theorem dX8_settingOf_0 : decode cX8_settingOf 0 = .ok (.iload_n 1, 1) := by decide +kernel
theorem dX8_settingOf_1 : decode cX8_settingOf 1 = .ok (.tableswitch 205 0 10 #[59, 70, 78, 86, 102, 118, 126, 134, 153, 186, 197], 59) := by decide +kernel
theorem dX8_settingOf_60 : decode cX8_settingOf 60 = .ok (.aload_n 0, 1) := by decide +kernel
theorem dX8_settingOf_61 : decode cX8_settingOf 61 = .ok (.getfield 26, 3) := by decide +kernel
theorem dX8_settingOf_64 : decode cX8_settingOf 64 = .ok (.getfield 79, 3) := by decide +kernel
theorem dX8_settingOf_67 : decode cX8_settingOf 67 = .ok (.getfield 89, 3) := by decide +kernel
theorem dX8_settingOf_70 : decode cX8_settingOf 70 = .ok (.ireturn, 1) := by decide +kernel
theorem dX8_settingOf_71 : decode cX8_settingOf 71 = .ok (.aload_n 0, 1) := by decide +kernel
theorem dX8_settingOf_72 : decode cX8_settingOf 72 = .ok (.getfield 26, 3) := by decide +kernel
theorem dX8_settingOf_75 : decode cX8_settingOf 75 = .ok (.getfield 268, 3) := by decide +kernel
theorem dX8_settingOf_78 : decode cX8_settingOf 78 = .ok (.ireturn, 1) := by decide +kernel
theorem dX8_settingOf_79 : decode cX8_settingOf 79 = .ok (.aload_n 0, 1) := by decide +kernel
theorem dX8_settingOf_80 : decode cX8_settingOf 80 = .ok (.getfield 26, 3) := by decide +kernel
theorem dX8_settingOf_83 : decode cX8_settingOf 83 = .ok (.getfield 94, 3) := by decide +kernel
theorem dX8_settingOf_86 : decode cX8_settingOf 86 = .ok (.ireturn, 1) := by decide +kernel
theorem dX8_settingOf_87 : decode cX8_settingOf 87 = .ok (.aload_n 0, 1) := by decide +kernel
theorem dX8_settingOf_88 : decode cX8_settingOf 88 = .ok (.getfield 26, 3) := by decide +kernel
theorem dX8_settingOf_91 : decode cX8_settingOf 91 = .ok (.getfield 97, 3) := by decide +kernel
theorem dX8_settingOf_94 : decode cX8_settingOf 94 = .ok (.ifCond .eq 7, 3) := by decide +kernel
theorem dX8_settingOf_97 : decode cX8_settingOf 97 = .ok (.iconst 1, 1) := by decide +kernel
theorem dX8_settingOf_98 : decode cX8_settingOf 98 = .ok (.goto 4, 3) := by decide +kernel
theorem dX8_settingOf_101 : decode cX8_settingOf 101 = .ok (.iconst 0, 1) := by decide +kernel
theorem dX8_settingOf_102 : decode cX8_settingOf 102 = .ok (.ireturn, 1) := by decide +kernel
theorem dX8_settingOf_103 : decode cX8_settingOf 103 = .ok (.aload_n 0, 1) := by decide +kernel
theorem dX8_settingOf_104 : decode cX8_settingOf 104 = .ok (.getfield 26, 3) := by decide +kernel
theorem dX8_settingOf_107 : decode cX8_settingOf 107 = .ok (.getfield 165, 3) := by decide +kernel
theorem dX8_settingOf_110 : decode cX8_settingOf 110 = .ok (.ifCond .eq 7, 3) := by decide +kernel
theorem dX8_settingOf_113 : decode cX8_settingOf 113 = .ok (.iconst 1, 1) := by decide +kernel
theorem dX8_settingOf_114 : decode cX8_settingOf 114 = .ok (.goto 4, 3) := by decide +kernel
theorem dX8_settingOf_117 : decode cX8_settingOf 117 = .ok (.iconst 0, 1) := by decide +kernel
theorem dX8_settingOf_118 : decode cX8_settingOf 118 = .ok (.ireturn, 1) := by decide +kernel
theorem dX8_settingOf_119 : decode cX8_settingOf 119 = .ok (.aload_n 0, 1) := by decide +kernel
theorem dX8_settingOf_120 : decode cX8_settingOf 120 = .ok (.getfield 26, 3) := by decide +kernel
theorem dX8_settingOf_123 : decode cX8_settingOf 123 = .ok (.getfield 138, 3) := by decide +kernel
theorem dX8_settingOf_126 : decode cX8_settingOf 126 = .ok (.ireturn, 1) := by decide +kernel
theorem dX8_settingOf_127 : decode cX8_settingOf 127 = .ok (.aload_n 0, 1) := by decide +kernel
theorem dX8_settingOf_128 : decode cX8_settingOf 128 = .ok (.getfield 26, 3) := by decide +kernel
theorem dX8_settingOf_131 : decode cX8_settingOf 131 = .ok (.invokevirtual 141, 3) := by decide +kernel
theorem dX8_settingOf_134 : decode cX8_settingOf 134 = .ok (.ireturn, 1) := by decide +kernel
theorem dX8_settingOf_135 : decode cX8_settingOf 135 = .ok (.aload_n 0, 1) := by decide +kernel
theorem dX8_settingOf_136 : decode cX8_settingOf 136 = .ok (.getfield 40, 3) := by decide +kernel
theorem dX8_settingOf_139 : decode cX8_settingOf 139 = .ok (.aload_n 0, 1) := by decide +kernel
theorem dX8_settingOf_140 : decode cX8_settingOf 140 = .ok (.getfield 26, 3) := by decide +kernel
theorem dX8_settingOf_143 : decode cX8_settingOf 143 = .ok (.invokevirtual 168, 3) := by decide +kernel
theorem dX8_settingOf_146 : decode cX8_settingOf 146 = .ok (.aload_n 0, 1) := by decide +kernel
theorem dX8_settingOf_147 : decode cX8_settingOf 147 = .ok (.getfield 40, 3) := by decide +kernel
theorem dX8_settingOf_150 : decode cX8_settingOf 150 = .ok (.getfield 171, 3) := by decide +kernel
theorem dX8_settingOf_153 : decode cX8_settingOf 153 = .ok (.ireturn, 1) := by decide +kernel
theorem dX8_settingOf_154 : decode cX8_settingOf 154 = .ok (.aload_n 0, 1) := by decide +kernel
theorem dX8_settingOf_155 : decode cX8_settingOf 155 = .ok (.getfield 40, 3) := by decide +kernel
theorem dX8_settingOf_158 : decode cX8_settingOf 158 = .ok (.aload_n 0, 1) := by decide +kernel
theorem dX8_settingOf_159 : decode cX8_settingOf 159 = .ok (.getfield 26, 3) := by decide +kernel
theorem dX8_settingOf_162 : decode cX8_settingOf 162 = .ok (.invokevirtual 168, 3) := by decide +kernel
theorem dX8_settingOf_165 : decode cX8_settingOf 165 = .ok (.aload_n 0, 1) := by decide +kernel
theorem dX8_settingOf_166 : decode cX8_settingOf 166 = .ok (.getfield 40, 3) := by decide +kernel
theorem dX8_settingOf_169 : decode cX8_settingOf 169 = .ok (.getfield 171, 3) := by decide +kernel
theorem dX8_settingOf_172 : decode cX8_settingOf 172 = .ok (.ifCond .le 13, 3) := by decide +kernel
theorem dX8_settingOf_175 : decode cX8_settingOf 175 = .ok (.aload_n 0, 1) := by decide +kernel
theorem dX8_settingOf_176 : decode cX8_settingOf 176 = .ok (.getfield 26, 3) := by decide +kernel
theorem dX8_settingOf_179 : decode cX8_settingOf 179 = .ok (.getfield 86, 3) := by decide +kernel
theorem dX8_settingOf_182 : decode cX8_settingOf 182 = .ok (.goto 4, 3) := by decide +kernel
theorem dX8_settingOf_185 : decode cX8_settingOf 185 = .ok (.iconst (-1), 1) := by decide +kernel
theorem dX8_settingOf_186 : decode cX8_settingOf 186 = .ok (.ireturn, 1) := by decide +kernel
theorem dX8_settingOf_187 : decode cX8_settingOf 187 = .ok (.aload_n 0, 1) := by decide +kernel
theorem dX8_settingOf_188 : decode cX8_settingOf 188 = .ok (.getfield 26, 3) := by decide +kernel
theorem dX8_settingOf_191 : decode cX8_settingOf 191 = .ok (.getfield 182, 3) := by decide +kernel
theorem dX8_settingOf_194 : decode cX8_settingOf 194 = .ok (.getfield 186, 3) := by decide +kernel
theorem dX8_settingOf_197 : decode cX8_settingOf 197 = .ok (.ireturn, 1) := by decide +kernel
theorem dX8_settingOf_198 : decode cX8_settingOf 198 = .ok (.aload_n 0, 1) := by decide +kernel
theorem dX8_settingOf_199 : decode cX8_settingOf 199 = .ok (.getfield 26, 3) := by decide +kernel
theorem dX8_settingOf_202 : decode cX8_settingOf 202 = .ok (.getfield 179, 3) := by decide +kernel
theorem dX8_settingOf_205 : decode cX8_settingOf 205 = .ok (.ireturn, 1) := by decide +kernel
theorem dX8_settingOf_206 : decode cX8_settingOf 206 = .ok (.iconst (-1), 1) := by decide +kernel
theorem dX8_settingOf_207 : decode cX8_settingOf 207 = .ok (.ireturn, 1) := by decide +kernel
theorem dX8_placeValue_0 : decode cX8_placeValue 0 = .ok (.aload_n 0, 1) := by decide +kernel
theorem dX8_placeValue_1 : decode cX8_placeValue 1 = .ok (.getfield 26, 3) := by decide +kernel
theorem dX8_placeValue_4 : decode cX8_placeValue 4 = .ok (.getfield 161, 3) := by decide +kernel
theorem dX8_placeValue_7 : decode cX8_placeValue 7 = .ok (.iload_n 1, 1) := by decide +kernel
theorem dX8_placeValue_8 : decode cX8_placeValue 8 = .ok (.invokestatic 271, 3) := by decide +kernel
theorem dX8_placeValue_11 : decode cX8_placeValue 11 = .ok (.istore_n 2, 1) := by decide +kernel
theorem dX8_placeValue_12 : decode cX8_placeValue 12 = .ok (.iload_n 2, 1) := by decide +kernel
theorem dX8_placeValue_13 : decode cX8_placeValue 13 = .ok (.invokestatic 274, 3) := by decide +kernel
theorem dX8_placeValue_16 : decode cX8_placeValue 16 = .ok (.ifCond .eq 13, 3) := by decide +kernel
theorem dX8_placeValue_19 : decode cX8_placeValue 19 = .ok (.bipush 100, 2) := by decide +kernel
theorem dX8_placeValue_21 : decode cX8_placeValue 21 = .ok (.iload_n 2, 1) := by decide +kernel
theorem dX8_placeValue_22 : decode cX8_placeValue 22 = .ok (.invokestatic 277, 3) := by decide +kernel
theorem dX8_placeValue_25 : decode cX8_placeValue 25 = .ok (.iadd, 1) := by decide +kernel
theorem dX8_placeValue_26 : decode cX8_placeValue 26 = .ok (.goto 7, 3) := by decide +kernel
theorem dX8_placeValue_29 : decode cX8_placeValue 29 = .ok (.iload_n 2, 1) := by decide +kernel
theorem dX8_placeValue_30 : decode cX8_placeValue 30 = .ok (.invokestatic 280, 3) := by decide +kernel
theorem dX8_placeValue_33 : decode cX8_placeValue 33 = .ok (.ireturn, 1) := by decide +kernel
theorem dX8_displayed_0 : decode cX8_displayed 0 = .ok (.aload_n 0, 1) := by decide +kernel
theorem dX8_displayed_1 : decode cX8_displayed 1 = .ok (.getfield 26, 3) := by decide +kernel
theorem dX8_displayed_4 : decode cX8_displayed 4 = .ok (.getfield 165, 3) := by decide +kernel
theorem dX8_displayed_7 : decode cX8_displayed 7 = .ok (.ifCond .ne 49, 3) := by decide +kernel
theorem dX8_displayed_10 : decode cX8_displayed 10 = .ok (.aload_n 0, 1) := by decide +kernel
theorem dX8_displayed_11 : decode cX8_displayed 11 = .ok (.getfield 40, 3) := by decide +kernel
theorem dX8_displayed_14 : decode cX8_displayed 14 = .ok (.aload_n 0, 1) := by decide +kernel
theorem dX8_displayed_15 : decode cX8_displayed 15 = .ok (.getfield 26, 3) := by decide +kernel
theorem dX8_displayed_18 : decode cX8_displayed 18 = .ok (.invokevirtual 168, 3) := by decide +kernel
theorem dX8_displayed_21 : decode cX8_displayed 21 = .ok (.aload_n 0, 1) := by decide +kernel
theorem dX8_displayed_22 : decode cX8_displayed 22 = .ok (.getfield 40, 3) := by decide +kernel
theorem dX8_displayed_25 : decode cX8_displayed 25 = .ok (.getfield 171, 3) := by decide +kernel
theorem dX8_displayed_28 : decode cX8_displayed 28 = .ok (.ifCond .le 28, 3) := by decide +kernel
theorem dX8_displayed_31 : decode cX8_displayed 31 = .ok (.aload_n 0, 1) := by decide +kernel
theorem dX8_displayed_32 : decode cX8_displayed 32 = .ok (.getfield 26, 3) := by decide +kernel
theorem dX8_displayed_35 : decode cX8_displayed 35 = .ok (.getfield 79, 3) := by decide +kernel
theorem dX8_displayed_38 : decode cX8_displayed 38 = .ok (.aload_n 0, 1) := by decide +kernel
theorem dX8_displayed_39 : decode cX8_displayed 39 = .ok (.getfield 40, 3) := by decide +kernel
theorem dX8_displayed_42 : decode cX8_displayed 42 = .ok (.aload_n 0, 1) := by decide +kernel
theorem dX8_displayed_43 : decode cX8_displayed 43 = .ok (.getfield 26, 3) := by decide +kernel
theorem dX8_displayed_46 : decode cX8_displayed 46 = .ok (.getfield 86, 3) := by decide +kernel
theorem dX8_displayed_49 : decode cX8_displayed 49 = .ok (.invokevirtual 218, 3) := by decide +kernel
theorem dX8_displayed_52 : decode cX8_displayed 52 = .ok (.invokevirtual 116, 3) := by decide +kernel
theorem dX8_displayed_55 : decode cX8_displayed 55 = .ok (.lreturn, 1) := by decide +kernel
theorem dX8_displayed_56 : decode cX8_displayed 56 = .ok (.aload_n 0, 1) := by decide +kernel
theorem dX8_displayed_57 : decode cX8_displayed 57 = .ok (.getfield 26, 3) := by decide +kernel
theorem dX8_displayed_60 : decode cX8_displayed 60 = .ok (.getfield 161, 3) := by decide +kernel
theorem dX8_displayed_63 : decode cX8_displayed 63 = .ok (.invokestatic 283, 3) := by decide +kernel
theorem dX8_displayed_66 : decode cX8_displayed 66 = .ok (.lreturn, 1) := by decide +kernel
theorem dJ9_min_7cf53_0 : decode cJ9_min_7cf53 0 = .ok (.iload_n 0, 1) := by decide +kernel
theorem dJ9_min_7cf53_1 : decode cJ9_min_7cf53 1 = .ok (.iload_n 1, 1) := by decide +kernel
theorem dJ9_min_7cf53_2 : decode cJ9_min_7cf53 2 = .ok (.if_icmp .gt 7, 3) := by decide +kernel
theorem dJ9_min_7cf53_5 : decode cJ9_min_7cf53 5 = .ok (.iload_n 0, 1) := by decide +kernel
theorem dJ9_min_7cf53_6 : decode cJ9_min_7cf53 6 = .ok (.goto 4, 3) := by decide +kernel
theorem dJ9_min_7cf53_9 : decode cJ9_min_7cf53 9 = .ok (.iload_n 1, 1) := by decide +kernel
theorem dJ9_min_7cf53_10 : decode cJ9_min_7cf53 10 = .ok (.ireturn, 1) := by decide +kernel
