theorem dX9_init_0 : decode cX9_init 0 = .ok (.aload_n 0, 1) := by decide +kernel
theorem dX9_init_1 : decode cX9_init 1 = .ok (.invokespecial 1, 3) := by decide +kernel
theorem dX9_init_4 : decode cX9_init 4 = .ok (.aload_n 0, 1) := by decide +kernel
theorem dX9_init_5 : decode cX9_init 5 = .ok (.sipush 1367, 3) := by decide +kernel
theorem dX9_init_8 : decode cX9_init 8 = .ok (.newarray .long, 2) := by decide +kernel
theorem dX9_init_10 : decode cX9_init 10 = .ok (.putfield 7, 3) := by decide +kernel
theorem dX9_init_13 : decode cX9_init 13 = .ok (.aload_n 0, 1) := by decide +kernel
theorem dX9_init_14 : decode cX9_init 14 = .ok (.sipush 1367, 3) := by decide +kernel
theorem dX9_init_17 : decode cX9_init 17 = .ok (.newarray .long, 2) := by decide +kernel
theorem dX9_init_19 : decode cX9_init 19 = .ok (.putfield 13, 3) := by decide +kernel
theorem dX9_init_22 : decode cX9_init 22 = .ok (.aload_n 0, 1) := by decide +kernel
theorem dX9_init_23 : decode cX9_init 23 = .ok (.sipush 6835, 3) := by decide +kernel
theorem dX9_init_26 : decode cX9_init 26 = .ok (.newarray .long, 2) := by decide +kernel
theorem dX9_init_28 : decode cX9_init 28 = .ok (.putfield 16, 3) := by decide +kernel
theorem dX9_init_31 : decode cX9_init 31 = .ok (.aload_n 0, 1) := by decide +kernel
theorem dX9_init_32 : decode cX9_init 32 = .ok (.bipush 40, 2) := by decide +kernel
theorem dX9_init_34 : decode cX9_init 34 = .ok (.newarray .int, 2) := by decide +kernel
theorem dX9_init_36 : decode cX9_init 36 = .ok (.putfield 19, 3) := by decide +kernel
theorem dX9_init_39 : decode cX9_init 39 = .ok (.aload_n 0, 1) := by decide +kernel
theorem dX9_init_40 : decode cX9_init 40 = .ok (.sipush 140, 3) := by decide +kernel
theorem dX9_init_43 : decode cX9_init 43 = .ok (.newarray .int, 2) := by decide +kernel
theorem dX9_init_45 : decode cX9_init 45 = .ok (.putfield 23, 3) := by decide +kernel
theorem dX9_init_48 : decode cX9_init 48 = .ok (.aload_n 0, 1) := by decide +kernel
theorem dX9_init_49 : decode cX9_init 49 = .ok (.getfield 7, 3) := by decide +kernel
theorem dX9_init_52 : decode cX9_init 52 = .ok (.iconst 2, 1) := by decide +kernel
theorem dX9_init_53 : decode cX9_init 53 = .ok (.ldc2_w 26, 3) := by decide +kernel
theorem dX9_init_56 : decode cX9_init 56 = .ok (.lastore, 1) := by decide +kernel
theorem dX9_init_57 : decode cX9_init 57 = .ok (.aload_n 0, 1) := by decide +kernel
theorem dX9_init_58 : decode cX9_init 58 = .ok (.getfield 7, 3) := by decide +kernel
theorem dX9_init_61 : decode cX9_init 61 = .ok (.iconst 3, 1) := by decide +kernel
theorem dX9_init_62 : decode cX9_init 62 = .ok (.ldc2_w 28, 3) := by decide +kernel
theorem dX9_init_65 : decode cX9_init 65 = .ok (.lastore, 1) := by decide +kernel
theorem dX9_init_66 : decode cX9_init 66 = .ok (.aload_n 0, 1) := by decide +kernel
theorem dX9_init_67 : decode cX9_init 67 = .ok (.getfield 7, 3) := by decide +kernel
theorem dX9_init_70 : decode cX9_init 70 = .ok (.iconst 4, 1) := by decide +kernel
theorem dX9_init_71 : decode cX9_init 71 = .ok (.ldc2_w 26, 3) := by decide +kernel
theorem dX9_init_74 : decode cX9_init 74 = .ok (.lastore, 1) := by decide +kernel
theorem dX9_init_75 : decode cX9_init 75 = .ok (.aload_n 0, 1) := by decide +kernel
theorem dX9_init_76 : decode cX9_init 76 = .ok (.getfield 7, 3) := by decide +kernel
theorem dX9_init_79 : decode cX9_init 79 = .ok (.iconst 5, 1) := by decide +kernel
theorem dX9_init_80 : decode cX9_init 80 = .ok (.ldc2_w 30, 3) := by decide +kernel
theorem dX9_init_83 : decode cX9_init 83 = .ok (.lastore, 1) := by decide +kernel
theorem dX9_init_84 : decode cX9_init 84 = .ok (.return_, 1) := by decide +kernel
theorem dX9_in_0 : decode cX9_in 0 = .ok (.lload_n 0, 1) := by decide +kernel
theorem dX9_in_1 : decode cX9_in 1 = .ok (.lload_n 2, 1) := by decide +kernel
theorem dX9_in_2 : decode cX9_in 2 = .ok (.lcmp, 1) := by decide +kernel
theorem dX9_in_3 : decode cX9_in 3 = .ok (.ifCond .lt 14, 3) := by decide +kernel
theorem dX9_in_6 : decode cX9_in 6 = .ok (.lload_n 0, 1) := by decide +kernel
theorem dX9_in_7 : decode cX9_in 7 = .ok (.lload 4, 2) := by decide +kernel
theorem dX9_in_9 : decode cX9_in 9 = .ok (.lcmp, 1) := by decide +kernel
theorem dX9_in_10 : decode cX9_in 10 = .ok (.ifCond .gt 7, 3) := by decide +kernel
theorem dX9_in_13 : decode cX9_in 13 = .ok (.iconst 1, 1) := by decide +kernel
theorem dX9_in_14 : decode cX9_in 14 = .ok (.goto 4, 3) := by decide +kernel
theorem dX9_in_17 : decode cX9_in 17 = .ok (.iconst 0, 1) := by decide +kernel
theorem dX9_in_18 : decode cX9_in 18 = .ok (.ireturn, 1) := by decide +kernel
theorem dX9_c_0 : decode cX9_c 0 = .ok (.bipush 9, 2) := by decide +kernel
theorem dX9_c_2 : decode cX9_c 2 = .ok (.iconst 5, 1) := by decide +kernel
theorem dX9_c_3 : decode cX9_c 3 = .ok (.iload_n 0, 1) := by decide +kernel
theorem dX9_c_4 : decode cX9_c 4 = .ok (.imul, 1) := by decide +kernel
theorem dX9_c_5 : decode cX9_c 5 = .ok (.iadd, 1) := by decide +kernel
theorem dX9_c_6 : decode cX9_c 6 = .ok (.iload_n 1, 1) := by decide +kernel
theorem dX9_c_7 : decode cX9_c 7 = .ok (.iadd, 1) := by decide +kernel
theorem dX9_c_8 : decode cX9_c 8 = .ok (.ireturn, 1) := by decide +kernel
theorem dX9_isCard_0 : decode cX9_isCard 0 = .ok (.iload_n 1, 1) := by decide +kernel
theorem dX9_isCard_1 : decode cX9_isCard 1 = .ok (.i2l, 1) := by decide +kernel
theorem dX9_isCard_2 : decode cX9_isCard 2 = .ok (.lconst 0, 1) := by decide +kernel
theorem dX9_isCard_3 : decode cX9_isCard 3 = .ok (.aload_n 0, 1) := by decide +kernel
theorem dX9_isCard_4 : decode cX9_isCard 4 = .ok (.getfield 7, 3) := by decide +kernel
theorem dX9_isCard_7 : decode cX9_isCard 7 = .ok (.iconst 0, 1) := by decide +kernel
theorem dX9_isCard_8 : decode cX9_isCard 8 = .ok (.laload, 1) := by decide +kernel
theorem dX9_isCard_9 : decode cX9_isCard 9 = .ok (.lconst 1, 1) := by decide +kernel
theorem dX9_isCard_10 : decode cX9_isCard 10 = .ok (.lsub, 1) := by decide +kernel
theorem dX9_isCard_11 : decode cX9_isCard 11 = .ok (.invokestatic 32, 3) := by decide +kernel
theorem dX9_isCard_14 : decode cX9_isCard 14 = .ok (.ireturn, 1) := by decide +kernel
theorem dX9_isRow_0 : decode cX9_isRow 0 = .ok (.lload_n 0, 1) := by decide +kernel
theorem dX9_isRow_1 : decode cX9_isRow 1 = .ok (.lconst 0, 1) := by decide +kernel
theorem dX9_isRow_2 : decode cX9_isRow 2 = .ok (.ldc2_w 36, 3) := by decide +kernel
theorem dX9_isRow_5 : decode cX9_isRow 5 = .ok (.invokestatic 32, 3) := by decide +kernel
theorem dX9_isRow_8 : decode cX9_isRow 8 = .ok (.ireturn, 1) := by decide +kernel
theorem dX9_digit_0 : decode cX9_digit 0 = .ok (.lload_n 0, 1) := by decide +kernel
theorem dX9_digit_1 : decode cX9_digit 1 = .ok (.lstore_n 3, 1) := by decide +kernel
theorem dX9_digit_2 : decode cX9_digit 2 = .ok (.iload_n 2, 1) := by decide +kernel
theorem dX9_digit_3 : decode cX9_digit 3 = .ok (.istore 5, 2) := by decide +kernel
theorem dX9_digit_5 : decode cX9_digit 5 = .ok (.iload 5, 2) := by decide +kernel
theorem dX9_digit_7 : decode cX9_digit 7 = .ok (.bipush 11, 2) := by decide +kernel
theorem dX9_digit_9 : decode cX9_digit 9 = .ok (.if_icmp .ge 15, 3) := by decide +kernel
theorem dX9_digit_12 : decode cX9_digit 12 = .ok (.lload_n 3, 1) := by decide +kernel
theorem dX9_digit_13 : decode cX9_digit 13 = .ok (.ldc2_w 38, 3) := by decide +kernel
theorem dX9_digit_16 : decode cX9_digit 16 = .ok (.ldiv, 1) := by decide +kernel
theorem dX9_digit_17 : decode cX9_digit 17 = .ok (.lstore_n 3, 1) := by decide +kernel
theorem dX9_digit_18 : decode cX9_digit 18 = .ok (.iinc 5 1, 3) := by decide +kernel
theorem dX9_digit_21 : decode cX9_digit 21 = .ok (.goto (-16), 3) := by decide +kernel
theorem dX9_digit_24 : decode cX9_digit 24 = .ok (.lload_n 3, 1) := by decide +kernel
theorem dX9_digit_25 : decode cX9_digit 25 = .ok (.ldc2_w 38, 3) := by decide +kernel
theorem dX9_digit_28 : decode cX9_digit 28 = .ok (.lrem, 1) := by decide +kernel
theorem dX9_digit_29 : decode cX9_digit 29 = .ok (.l2i, 1) := by decide +kernel
theorem dX9_digit_30 : decode cX9_digit 30 = .ok (.ireturn, 1) := by decide +kernel
theorem dX9_read_0 : decode cX9_read 0 = .ok (.aload_n 0, 1) := by decide +kernel
theorem dX9_read_1 : decode cX9_read 1 = .ok (.getfield 7, 3) := by decide +kernel
theorem dX9_read_4 : decode cX9_read 4 = .ok (.iload_n 1, 1) := by decide +kernel
theorem dX9_read_5 : decode cX9_read 5 = .ok (.iconst 1, 1) := by decide +kernel
theorem dX9_read_6 : decode cX9_read 6 = .ok (.invokestatic 40, 3) := by decide +kernel
theorem dX9_read_9 : decode cX9_read 9 = .ok (.laload, 1) := by decide +kernel
theorem dX9_read_10 : decode cX9_read 10 = .ok (.iload_n 2, 1) := by decide +kernel
theorem dX9_read_11 : decode cX9_read 11 = .ok (.invokestatic 44, 3) := by decide +kernel
theorem dX9_read_14 : decode cX9_read 14 = .ok (.ireturn, 1) := by decide +kernel
theorem dX9_isLooked_0 : decode cX9_isLooked 0 = .ok (.aload_n 0, 1) := by decide +kernel
theorem dX9_isLooked_1 : decode cX9_isLooked 1 = .ok (.getfield 7, 3) := by decide +kernel
theorem dX9_isLooked_4 : decode cX9_isLooked 4 = .ok (.iload_n 1, 1) := by decide +kernel
theorem dX9_isLooked_5 : decode cX9_isLooked 5 = .ok (.iconst 3, 1) := by decide +kernel
theorem dX9_isLooked_6 : decode cX9_isLooked 6 = .ok (.invokestatic 40, 3) := by decide +kernel
theorem dX9_isLooked_9 : decode cX9_isLooked 9 = .ok (.laload, 1) := by decide +kernel
theorem dX9_isLooked_10 : decode cX9_isLooked 10 = .ok (.ldc2_w 48, 3) := by decide +kernel
theorem dX9_isLooked_13 : decode cX9_isLooked 13 = .ok (.lcmp, 1) := by decide +kernel
theorem dX9_isLooked_14 : decode cX9_isLooked 14 = .ok (.ifCond .ne 7, 3) := by decide +kernel
theorem dX9_isLooked_17 : decode cX9_isLooked 17 = .ok (.iconst 1, 1) := by decide +kernel
theorem dX9_isLooked_18 : decode cX9_isLooked 18 = .ok (.goto 4, 3) := by decide +kernel
theorem dX9_isLooked_21 : decode cX9_isLooked 21 = .ok (.iconst 0, 1) := by decide +kernel
theorem dX9_isLooked_22 : decode cX9_isLooked 22 = .ok (.ireturn, 1) := by decide +kernel
theorem dX9_keeps_0 : decode cX9_keeps 0 = .ok (.iconst 0, 1) := by decide +kernel
theorem dX9_keeps_1 : decode cX9_keeps 1 = .ok (.istore_n 1, 1) := by decide +kernel
theorem dX9_keeps_2 : decode cX9_keeps 2 = .ok (.iload_n 1, 1) := by decide +kernel
theorem dX9_keeps_3 : decode cX9_keeps 3 = .ok (.sipush 1367, 3) := by decide +kernel
theorem dX9_keeps_6 : decode cX9_keeps 6 = .ok (.if_icmp .ge 21, 3) := by decide +kernel
theorem dX9_keeps_9 : decode cX9_keeps 9 = .ok (.aload_n 0, 1) := by decide +kernel
theorem dX9_keeps_10 : decode cX9_keeps 10 = .ok (.getfield 13, 3) := by decide +kernel
theorem dX9_keeps_13 : decode cX9_keeps 13 = .ok (.iload_n 1, 1) := by decide +kernel
theorem dX9_keeps_14 : decode cX9_keeps 14 = .ok (.aload_n 0, 1) := by decide +kernel
theorem dX9_keeps_15 : decode cX9_keeps 15 = .ok (.getfield 7, 3) := by decide +kernel
theorem dX9_keeps_18 : decode cX9_keeps 18 = .ok (.iload_n 1, 1) := by decide +kernel
theorem dX9_keeps_19 : decode cX9_keeps 19 = .ok (.laload, 1) := by decide +kernel
theorem dX9_keeps_20 : decode cX9_keeps 20 = .ok (.lastore, 1) := by decide +kernel
theorem dX9_keeps_21 : decode cX9_keeps 21 = .ok (.iinc 1 1, 3) := by decide +kernel
theorem dX9_keeps_24 : decode cX9_keeps 24 = .ok (.goto (-22), 3) := by decide +kernel
theorem dX9_keeps_27 : decode cX9_keeps 27 = .ok (.return_, 1) := by decide +kernel
theorem dX9_acted_0 : decode cX9_acted 0 = .ok (.iload_n 1, 1) := by decide +kernel
theorem dX9_acted_1 : decode cX9_acted 1 = .ok (.i2l, 1) := by decide +kernel
theorem dX9_acted_2 : decode cX9_acted 2 = .ok (.ldc2_w 50, 3) := by decide +kernel
theorem dX9_acted_5 : decode cX9_acted 5 = .ok (.ldc2_w 52, 3) := by decide +kernel
theorem dX9_acted_8 : decode cX9_acted 8 = .ok (.invokestatic 32, 3) := by decide +kernel
theorem dX9_acted_11 : decode cX9_acted 11 = .ok (.ifCond .eq 5, 3) := by decide +kernel
theorem dX9_acted_14 : decode cX9_acted 14 = .ok (.iload_n 1, 1) := by decide +kernel
theorem dX9_acted_15 : decode cX9_acted 15 = .ok (.ireturn, 1) := by decide +kernel
theorem dX9_acted_16 : decode cX9_acted 16 = .ok (.aload_n 0, 1) := by decide +kernel
theorem dX9_acted_17 : decode cX9_acted 17 = .ok (.getfield 54, 3) := by decide +kernel
theorem dX9_acted_20 : decode cX9_acted 20 = .ok (.iconst 5, 1) := by decide +kernel
theorem dX9_acted_21 : decode cX9_acted 21 = .ok (.if_icmp .ne 44, 3) := by decide +kernel
theorem dX9_acted_24 : decode cX9_acted 24 = .ok (.iconst 0, 1) := by decide +kernel
theorem dX9_acted_25 : decode cX9_acted 25 = .ok (.istore_n 2, 1) := by decide +kernel
theorem dX9_acted_26 : decode cX9_acted 26 = .ok (.iload_n 2, 1) := by decide +kernel
theorem dX9_acted_27 : decode cX9_acted 27 = .ok (.sipush 5468, 3) := by decide +kernel
theorem dX9_acted_30 : decode cX9_acted 30 = .ok (.if_icmp .ge 25, 3) := by decide +kernel
theorem dX9_acted_33 : decode cX9_acted 33 = .ok (.aload_n 0, 1) := by decide +kernel
theorem dX9_acted_34 : decode cX9_acted 34 = .ok (.getfield 16, 3) := by decide +kernel
theorem dX9_acted_37 : decode cX9_acted 37 = .ok (.iload_n 2, 1) := by decide +kernel
theorem dX9_acted_38 : decode cX9_acted 38 = .ok (.aload_n 0, 1) := by decide +kernel
theorem dX9_acted_39 : decode cX9_acted 39 = .ok (.getfield 16, 3) := by decide +kernel
theorem dX9_acted_42 : decode cX9_acted 42 = .ok (.iload_n 2, 1) := by decide +kernel
theorem dX9_acted_43 : decode cX9_acted 43 = .ok (.sipush 1367, 3) := by decide +kernel
theorem dX9_acted_46 : decode cX9_acted 46 = .ok (.iadd, 1) := by decide +kernel
theorem dX9_acted_47 : decode cX9_acted 47 = .ok (.laload, 1) := by decide +kernel
theorem dX9_acted_48 : decode cX9_acted 48 = .ok (.lastore, 1) := by decide +kernel
theorem dX9_acted_49 : decode cX9_acted 49 = .ok (.iinc 2 1, 3) := by decide +kernel
theorem dX9_acted_52 : decode cX9_acted 52 = .ok (.goto (-26), 3) := by decide +kernel
theorem dX9_acted_55 : decode cX9_acted 55 = .ok (.aload_n 0, 1) := by decide +kernel
theorem dX9_acted_56 : decode cX9_acted 56 = .ok (.dup, 1) := by decide +kernel
theorem dX9_acted_57 : decode cX9_acted 57 = .ok (.getfield 54, 3) := by decide +kernel
theorem dX9_acted_60 : decode cX9_acted 60 = .ok (.iconst 1, 1) := by decide +kernel
theorem dX9_acted_61 : decode cX9_acted 61 = .ok (.isub, 1) := by decide +kernel
theorem dX9_acted_62 : decode cX9_acted 62 = .ok (.putfield 54, 3) := by decide +kernel
theorem dX9_acted_65 : decode cX9_acted 65 = .ok (.iconst 0, 1) := by decide +kernel
theorem dX9_acted_66 : decode cX9_acted 66 = .ok (.istore_n 2, 1) := by decide +kernel
theorem dX9_acted_67 : decode cX9_acted 67 = .ok (.iload_n 2, 1) := by decide +kernel
theorem dX9_acted_68 : decode cX9_acted 68 = .ok (.sipush 1367, 3) := by decide +kernel
theorem dX9_acted_71 : decode cX9_acted 71 = .ok (.if_icmp .ge 30, 3) := by decide +kernel
theorem dX9_acted_74 : decode cX9_acted 74 = .ok (.aload_n 0, 1) := by decide +kernel
theorem dX9_acted_75 : decode cX9_acted 75 = .ok (.getfield 16, 3) := by decide +kernel
theorem dX9_acted_78 : decode cX9_acted 78 = .ok (.sipush 1367, 3) := by decide +kernel
theorem dX9_acted_81 : decode cX9_acted 81 = .ok (.aload_n 0, 1) := by decide +kernel
theorem dX9_acted_82 : decode cX9_acted 82 = .ok (.getfield 54, 3) := by decide +kernel
theorem dX9_acted_85 : decode cX9_acted 85 = .ok (.imul, 1) := by decide +kernel
theorem dX9_acted_86 : decode cX9_acted 86 = .ok (.iload_n 2, 1) := by decide +kernel
theorem dX9_acted_87 : decode cX9_acted 87 = .ok (.iadd, 1) := by decide +kernel
theorem dX9_acted_88 : decode cX9_acted 88 = .ok (.aload_n 0, 1) := by decide +kernel
theorem dX9_acted_89 : decode cX9_acted 89 = .ok (.getfield 13, 3) := by decide +kernel
theorem dX9_acted_92 : decode cX9_acted 92 = .ok (.iload_n 2, 1) := by decide +kernel
theorem dX9_acted_93 : decode cX9_acted 93 = .ok (.laload, 1) := by decide +kernel
theorem dX9_acted_94 : decode cX9_acted 94 = .ok (.lastore, 1) := by decide +kernel
theorem dX9_acted_95 : decode cX9_acted 95 = .ok (.iinc 2 1, 3) := by decide +kernel
theorem dX9_acted_98 : decode cX9_acted 98 = .ok (.goto (-31), 3) := by decide +kernel
theorem dX9_acted_101 : decode cX9_acted 101 = .ok (.aload_n 0, 1) := by decide +kernel
theorem dX9_acted_102 : decode cX9_acted 102 = .ok (.dup, 1) := by decide +kernel
theorem dX9_acted_103 : decode cX9_acted 103 = .ok (.getfield 54, 3) := by decide +kernel
theorem dX9_acted_106 : decode cX9_acted 106 = .ok (.iconst 1, 1) := by decide +kernel
theorem dX9_acted_107 : decode cX9_acted 107 = .ok (.iadd, 1) := by decide +kernel
theorem dX9_acted_108 : decode cX9_acted 108 = .ok (.putfield 54, 3) := by decide +kernel
theorem dX9_acted_111 : decode cX9_acted 111 = .ok (.iload_n 1, 1) := by decide +kernel
theorem dX9_acted_112 : decode cX9_acted 112 = .ok (.ireturn, 1) := by decide +kernel
theorem dX9_goesOn_0 : decode cX9_goesOn 0 = .ok (.aload_n 0, 1) := by decide +kernel
theorem dX9_goesOn_1 : decode cX9_goesOn 1 = .ok (.getfield 7, 3) := by decide +kernel
theorem dX9_goesOn_4 : decode cX9_goesOn 4 = .ok (.iload_n 1, 1) := by decide +kernel
theorem dX9_goesOn_5 : decode cX9_goesOn 5 = .ok (.iconst 2, 1) := by decide +kernel
theorem dX9_goesOn_6 : decode cX9_goesOn 6 = .ok (.invokestatic 40, 3) := by decide +kernel
theorem dX9_goesOn_9 : decode cX9_goesOn 9 = .ok (.laload, 1) := by decide +kernel
theorem dX9_goesOn_10 : decode cX9_goesOn 10 = .ok (.aload_n 0, 1) := by decide +kernel
theorem dX9_goesOn_11 : decode cX9_goesOn 11 = .ok (.getfield 7, 3) := by decide +kernel
theorem dX9_goesOn_14 : decode cX9_goesOn 14 = .ok (.iload_n 2, 1) := by decide +kernel
theorem dX9_goesOn_15 : decode cX9_goesOn 15 = .ok (.iconst 2, 1) := by decide +kernel
theorem dX9_goesOn_16 : decode cX9_goesOn 16 = .ok (.invokestatic 40, 3) := by decide +kernel
theorem dX9_goesOn_19 : decode cX9_goesOn 19 = .ok (.laload, 1) := by decide +kernel
theorem dX9_goesOn_20 : decode cX9_goesOn 20 = .ok (.lcmp, 1) := by decide +kernel
theorem dX9_goesOn_21 : decode cX9_goesOn 21 = .ok (.ifCond .ne 25, 3) := by decide +kernel
theorem dX9_goesOn_24 : decode cX9_goesOn 24 = .ok (.aload_n 0, 1) := by decide +kernel
theorem dX9_goesOn_25 : decode cX9_goesOn 25 = .ok (.iload_n 1, 1) := by decide +kernel
theorem dX9_goesOn_26 : decode cX9_goesOn 26 = .ok (.iload_n 3, 1) := by decide +kernel
theorem dX9_goesOn_27 : decode cX9_goesOn 27 = .ok (.invokevirtual 58, 3) := by decide +kernel
theorem dX9_goesOn_30 : decode cX9_goesOn 30 = .ok (.ifCond .le 16, 3) := by decide +kernel
theorem dX9_goesOn_33 : decode cX9_goesOn 33 = .ok (.aload_n 0, 1) := by decide +kernel
theorem dX9_goesOn_34 : decode cX9_goesOn 34 = .ok (.iload_n 2, 1) := by decide +kernel
theorem dX9_goesOn_35 : decode cX9_goesOn 35 = .ok (.iload_n 3, 1) := by decide +kernel
theorem dX9_goesOn_36 : decode cX9_goesOn 36 = .ok (.invokevirtual 58, 3) := by decide +kernel
theorem dX9_goesOn_39 : decode cX9_goesOn 39 = .ok (.ifCond .le 7, 3) := by decide +kernel
theorem dX9_goesOn_42 : decode cX9_goesOn 42 = .ok (.iconst 1, 1) := by decide +kernel
theorem dX9_goesOn_43 : decode cX9_goesOn 43 = .ok (.goto 4, 3) := by decide +kernel
theorem dX9_goesOn_46 : decode cX9_goesOn 46 = .ok (.iconst 0, 1) := by decide +kernel
theorem dX9_goesOn_47 : decode cX9_goesOn 47 = .ok (.ireturn, 1) := by decide +kernel
theorem dX9_beside_0 : decode cX9_beside 0 = .ok (.iload_n 1, 1) := by decide +kernel
theorem dX9_beside_1 : decode cX9_beside 1 = .ok (.iload_n 2, 1) := by decide +kernel
theorem dX9_beside_2 : decode cX9_beside 2 = .ok (.iadd, 1) := by decide +kernel
theorem dX9_beside_3 : decode cX9_beside 3 = .ok (.istore_n 3, 1) := by decide +kernel
theorem dX9_beside_4 : decode cX9_beside 4 = .ok (.iload_n 3, 1) := by decide +kernel
theorem dX9_beside_5 : decode cX9_beside 5 = .ok (.ifCond .lt 48, 3) := by decide +kernel
theorem dX9_beside_8 : decode cX9_beside 8 = .ok (.iload_n 3, 1) := by decide +kernel
theorem dX9_beside_9 : decode cX9_beside 9 = .ok (.i2l, 1) := by decide +kernel
theorem dX9_beside_10 : decode cX9_beside 10 = .ok (.aload_n 0, 1) := by decide +kernel
theorem dX9_beside_11 : decode cX9_beside 11 = .ok (.getfield 7, 3) := by decide +kernel
theorem dX9_beside_14 : decode cX9_beside 14 = .ok (.iconst 0, 1) := by decide +kernel
theorem dX9_beside_15 : decode cX9_beside 15 = .ok (.laload, 1) := by decide +kernel
theorem dX9_beside_16 : decode cX9_beside 16 = .ok (.lcmp, 1) := by decide +kernel
theorem dX9_beside_17 : decode cX9_beside 17 = .ok (.ifCond .ge 36, 3) := by decide +kernel
theorem dX9_beside_20 : decode cX9_beside 20 = .ok (.aload_n 0, 1) := by decide +kernel
theorem dX9_beside_21 : decode cX9_beside 21 = .ok (.getfield 7, 3) := by decide +kernel
theorem dX9_beside_24 : decode cX9_beside 24 = .ok (.iload_n 3, 1) := by decide +kernel
theorem dX9_beside_25 : decode cX9_beside 25 = .ok (.iconst 0, 1) := by decide +kernel
theorem dX9_beside_26 : decode cX9_beside 26 = .ok (.invokestatic 40, 3) := by decide +kernel
theorem dX9_beside_29 : decode cX9_beside 29 = .ok (.laload, 1) := by decide +kernel
theorem dX9_beside_30 : decode cX9_beside 30 = .ok (.aload_n 0, 1) := by decide +kernel
theorem dX9_beside_31 : decode cX9_beside 31 = .ok (.getfield 7, 3) := by decide +kernel
theorem dX9_beside_34 : decode cX9_beside 34 = .ok (.iload_n 1, 1) := by decide +kernel
theorem dX9_beside_35 : decode cX9_beside 35 = .ok (.iconst 0, 1) := by decide +kernel
theorem dX9_beside_36 : decode cX9_beside 36 = .ok (.invokestatic 40, 3) := by decide +kernel
theorem dX9_beside_39 : decode cX9_beside 39 = .ok (.laload, 1) := by decide +kernel
theorem dX9_beside_40 : decode cX9_beside 40 = .ok (.lcmp, 1) := by decide +kernel
theorem dX9_beside_41 : decode cX9_beside 41 = .ok (.ifCond .ne 5, 3) := by decide +kernel
theorem dX9_beside_44 : decode cX9_beside 44 = .ok (.iload_n 3, 1) := by decide +kernel
theorem dX9_beside_45 : decode cX9_beside 45 = .ok (.ireturn, 1) := by decide +kernel
theorem dX9_beside_46 : decode cX9_beside 46 = .ok (.iload_n 3, 1) := by decide +kernel
theorem dX9_beside_47 : decode cX9_beside 47 = .ok (.iload_n 2, 1) := by decide +kernel
theorem dX9_beside_48 : decode cX9_beside 48 = .ok (.iadd, 1) := by decide +kernel
theorem dX9_beside_49 : decode cX9_beside 49 = .ok (.istore_n 3, 1) := by decide +kernel
theorem dX9_beside_50 : decode cX9_beside 50 = .ok (.goto (-46), 3) := by decide +kernel
theorem dX9_beside_53 : decode cX9_beside 53 = .ok (.bipush (-9), 2) := by decide +kernel
theorem dX9_beside_55 : decode cX9_beside 55 = .ok (.ireturn, 1) := by decide +kernel
theorem dX9_end_0 : decode cX9_end 0 = .ok (.iload_n 1, 1) := by decide +kernel
theorem dX9_end_1 : decode cX9_end 1 = .ok (.istore 4, 2) := by decide +kernel
theorem dX9_end_3 : decode cX9_end 3 = .ok (.aload_n 0, 1) := by decide +kernel
theorem dX9_end_4 : decode cX9_end 4 = .ok (.iload 4, 2) := by decide +kernel
theorem dX9_end_6 : decode cX9_end 6 = .ok (.iload_n 3, 1) := by decide +kernel
theorem dX9_end_7 : decode cX9_end 7 = .ok (.invokevirtual 61, 3) := by decide +kernel
theorem dX9_end_10 : decode cX9_end 10 = .ok (.istore 5, 2) := by decide +kernel
theorem dX9_end_12 : decode cX9_end 12 = .ok (.iload 5, 2) := by decide +kernel
theorem dX9_end_14 : decode cX9_end 14 = .ok (.bipush (-9), 2) := by decide +kernel
theorem dX9_end_16 : decode cX9_end 16 = .ok (.if_icmp .eq 31, 3) := by decide +kernel
theorem dX9_end_19 : decode cX9_end 19 = .ok (.aload_n 0, 1) := by decide +kernel
theorem dX9_end_20 : decode cX9_end 20 = .ok (.iload 4, 2) := by decide +kernel
theorem dX9_end_22 : decode cX9_end 22 = .ok (.iload 5, 2) := by decide +kernel
theorem dX9_end_24 : decode cX9_end 24 = .ok (.iload_n 2, 1) := by decide +kernel
theorem dX9_end_25 : decode cX9_end 25 = .ok (.invokevirtual 64, 3) := by decide +kernel
theorem dX9_end_28 : decode cX9_end 28 = .ok (.ifCond .eq 19, 3) := by decide +kernel
theorem dX9_end_31 : decode cX9_end 31 = .ok (.iload 5, 2) := by decide +kernel
theorem dX9_end_33 : decode cX9_end 33 = .ok (.istore 4, 2) := by decide +kernel
theorem dX9_end_35 : decode cX9_end 35 = .ok (.aload_n 0, 1) := by decide +kernel
theorem dX9_end_36 : decode cX9_end 36 = .ok (.iload 4, 2) := by decide +kernel
theorem dX9_end_38 : decode cX9_end 38 = .ok (.iload_n 3, 1) := by decide +kernel
theorem dX9_end_39 : decode cX9_end 39 = .ok (.invokevirtual 61, 3) := by decide +kernel
theorem dX9_end_42 : decode cX9_end 42 = .ok (.istore 5, 2) := by decide +kernel
theorem dX9_end_44 : decode cX9_end 44 = .ok (.goto (-32), 3) := by decide +kernel
theorem dX9_end_47 : decode cX9_end 47 = .ok (.iload 4, 2) := by decide +kernel
theorem dX9_end_49 : decode cX9_end 49 = .ok (.ireturn, 1) := by decide +kernel
theorem dX9_runFrom_0 : decode cX9_runFrom 0 = .ok (.aload_n 0, 1) := by decide +kernel
theorem dX9_runFrom_1 : decode cX9_runFrom 1 = .ok (.iload_n 1, 1) := by decide +kernel
theorem dX9_runFrom_2 : decode cX9_runFrom 2 = .ok (.iload_n 2, 1) := by decide +kernel
theorem dX9_runFrom_3 : decode cX9_runFrom 3 = .ok (.iconst 1, 1) := by decide +kernel
theorem dX9_runFrom_4 : decode cX9_runFrom 4 = .ok (.invokevirtual 68, 3) := by decide +kernel
theorem dX9_runFrom_7 : decode cX9_runFrom 7 = .ok (.istore_n 3, 1) := by decide +kernel
theorem dX9_runFrom_8 : decode cX9_runFrom 8 = .ok (.iconst 1, 1) := by decide +kernel
theorem dX9_runFrom_9 : decode cX9_runFrom 9 = .ok (.istore 4, 2) := by decide +kernel
theorem dX9_runFrom_11 : decode cX9_runFrom 11 = .ok (.iload_n 1, 1) := by decide +kernel
theorem dX9_runFrom_12 : decode cX9_runFrom 12 = .ok (.istore 5, 2) := by decide +kernel
theorem dX9_runFrom_14 : decode cX9_runFrom 14 = .ok (.iload 5, 2) := by decide +kernel
theorem dX9_runFrom_16 : decode cX9_runFrom 16 = .ok (.iload_n 3, 1) := by decide +kernel
theorem dX9_runFrom_17 : decode cX9_runFrom 17 = .ok (.if_icmp .eq 18, 3) := by decide +kernel
theorem dX9_runFrom_20 : decode cX9_runFrom 20 = .ok (.iinc 4 1, 3) := by decide +kernel
theorem dX9_runFrom_23 : decode cX9_runFrom 23 = .ok (.aload_n 0, 1) := by decide +kernel
theorem dX9_runFrom_24 : decode cX9_runFrom 24 = .ok (.iload 5, 2) := by decide +kernel
theorem dX9_runFrom_26 : decode cX9_runFrom 26 = .ok (.iconst 1, 1) := by decide +kernel
theorem dX9_runFrom_27 : decode cX9_runFrom 27 = .ok (.invokevirtual 61, 3) := by decide +kernel
theorem dX9_runFrom_30 : decode cX9_runFrom 30 = .ok (.istore 5, 2) := by decide +kernel
theorem dX9_runFrom_32 : decode cX9_runFrom 32 = .ok (.goto (-18), 3) := by decide +kernel
theorem dX9_runFrom_35 : decode cX9_runFrom 35 = .ok (.iload 4, 2) := by decide +kernel
theorem dX9_runFrom_37 : decode cX9_runFrom 37 = .ok (.ireturn, 1) := by decide +kernel
theorem dX9_least_0 : decode cX9_least 0 = .ok (.iload_n 1, 1) := by decide +kernel
theorem dX9_least_1 : decode cX9_least 1 = .ok (.iload_n 2, 1) := by decide +kernel
theorem dX9_least_2 : decode cX9_least 2 = .ok (.if_icmp .ge 7, 3) := by decide +kernel
theorem dX9_least_5 : decode cX9_least 5 = .ok (.iload_n 1, 1) := by decide +kernel
theorem dX9_least_6 : decode cX9_least 6 = .ok (.goto 4, 3) := by decide +kernel
theorem dX9_least_9 : decode cX9_least 9 = .ok (.iload_n 2, 1) := by decide +kernel
theorem dX9_least_10 : decode cX9_least 10 = .ok (.ireturn, 1) := by decide +kernel
theorem dX9_dirtBy_0 : decode cX9_dirtBy 0 = .ok (.aload_n 0, 1) := by decide +kernel
theorem dX9_dirtBy_1 : decode cX9_dirtBy 1 = .ok (.iload_n 1, 1) := by decide +kernel
theorem dX9_dirtBy_2 : decode cX9_dirtBy 2 = .ok (.iload_n 2, 1) := by decide +kernel
theorem dX9_dirtBy_3 : decode cX9_dirtBy 3 = .ok (.invokevirtual 58, 3) := by decide +kernel
theorem dX9_dirtBy_6 : decode cX9_dirtBy 6 = .ok (.istore_n 3, 1) := by decide +kernel
theorem dX9_dirtBy_7 : decode cX9_dirtBy 7 = .ok (.aload_n 0, 1) := by decide +kernel
theorem dX9_dirtBy_8 : decode cX9_dirtBy 8 = .ok (.iload_n 1, 1) := by decide +kernel
theorem dX9_dirtBy_9 : decode cX9_dirtBy 9 = .ok (.invokevirtual 72, 3) := by decide +kernel
theorem dX9_dirtBy_12 : decode cX9_dirtBy 12 = .ok (.ifCond .ne 5, 3) := by decide +kernel
theorem dX9_dirtBy_15 : decode cX9_dirtBy 15 = .ok (.iload_n 3, 1) := by decide +kernel
theorem dX9_dirtBy_16 : decode cX9_dirtBy 16 = .ok (.ireturn, 1) := by decide +kernel
theorem dX9_dirtBy_17 : decode cX9_dirtBy 17 = .ok (.iload_n 3, 1) := by decide +kernel
theorem dX9_dirtBy_18 : decode cX9_dirtBy 18 = .ok (.aload_n 0, 1) := by decide +kernel
theorem dX9_dirtBy_19 : decode cX9_dirtBy 19 = .ok (.getfield 7, 3) := by decide +kernel
theorem dX9_dirtBy_22 : decode cX9_dirtBy 22 = .ok (.iload_n 1, 1) := by decide +kernel
theorem dX9_dirtBy_23 : decode cX9_dirtBy 23 = .ok (.iconst 4, 1) := by decide +kernel
theorem dX9_dirtBy_24 : decode cX9_dirtBy 24 = .ok (.invokestatic 40, 3) := by decide +kernel
theorem dX9_dirtBy_27 : decode cX9_dirtBy 27 = .ok (.laload, 1) := by decide +kernel
theorem dX9_dirtBy_28 : decode cX9_dirtBy 28 = .ok (.iload_n 2, 1) := by decide +kernel
theorem dX9_dirtBy_29 : decode cX9_dirtBy 29 = .ok (.invokestatic 44, 3) := by decide +kernel
theorem dX9_dirtBy_32 : decode cX9_dirtBy 32 = .ok (.isub, 1) := by decide +kernel
theorem dX9_dirtBy_33 : decode cX9_dirtBy 33 = .ok (.istore 4, 2) := by decide +kernel
theorem dX9_dirtBy_35 : decode cX9_dirtBy 35 = .ok (.iload 4, 2) := by decide +kernel
theorem dX9_dirtBy_37 : decode cX9_dirtBy 37 = .ok (.ifCond .le 8, 3) := by decide +kernel
theorem dX9_dirtBy_40 : decode cX9_dirtBy 40 = .ok (.iload 4, 2) := by decide +kernel
theorem dX9_dirtBy_42 : decode cX9_dirtBy 42 = .ok (.goto 4, 3) := by decide +kernel
theorem dX9_dirtBy_45 : decode cX9_dirtBy 45 = .ok (.iconst 0, 1) := by decide +kernel
theorem dX9_dirtBy_46 : decode cX9_dirtBy 46 = .ok (.ireturn, 1) := by decide +kernel
theorem dX9_dirt_0 : decode cX9_dirt 0 = .ok (.aload_n 0, 1) := by decide +kernel
theorem dX9_dirt_1 : decode cX9_dirt 1 = .ok (.iload_n 1, 1) := by decide +kernel
theorem dX9_dirt_2 : decode cX9_dirt 2 = .ok (.iload_n 2, 1) := by decide +kernel
theorem dX9_dirt_3 : decode cX9_dirt 3 = .ok (.invokevirtual 58, 3) := by decide +kernel
theorem dX9_dirt_6 : decode cX9_dirt 6 = .ok (.ifCond .ne 5, 3) := by decide +kernel
theorem dX9_dirt_9 : decode cX9_dirt 9 = .ok (.iconst 0, 1) := by decide +kernel
theorem dX9_dirt_10 : decode cX9_dirt 10 = .ok (.ireturn, 1) := by decide +kernel
theorem dX9_dirt_11 : decode cX9_dirt 11 = .ok (.aload_n 0, 1) := by decide +kernel
theorem dX9_dirt_12 : decode cX9_dirt 12 = .ok (.iload_n 1, 1) := by decide +kernel
theorem dX9_dirt_13 : decode cX9_dirt 13 = .ok (.iload_n 2, 1) := by decide +kernel
theorem dX9_dirt_14 : decode cX9_dirt 14 = .ok (.iconst (-1), 1) := by decide +kernel
theorem dX9_dirt_15 : decode cX9_dirt 15 = .ok (.invokevirtual 68, 3) := by decide +kernel
theorem dX9_dirt_18 : decode cX9_dirt 18 = .ok (.istore 4, 2) := by decide +kernel
theorem dX9_dirt_20 : decode cX9_dirt 20 = .ok (.aload_n 0, 1) := by decide +kernel
theorem dX9_dirt_21 : decode cX9_dirt 21 = .ok (.iload 4, 2) := by decide +kernel
theorem dX9_dirt_23 : decode cX9_dirt 23 = .ok (.iload_n 2, 1) := by decide +kernel
theorem dX9_dirt_24 : decode cX9_dirt 24 = .ok (.invokevirtual 76, 3) := by decide +kernel
theorem dX9_dirt_27 : decode cX9_dirt 27 = .ok (.iload_n 3, 1) := by decide +kernel
theorem dX9_dirt_28 : decode cX9_dirt 28 = .ok (.if_icmp .ge 5, 3) := by decide +kernel
theorem dX9_dirt_31 : decode cX9_dirt 31 = .ok (.iconst 0, 1) := by decide +kernel
theorem dX9_dirt_32 : decode cX9_dirt 32 = .ok (.ireturn, 1) := by decide +kernel
theorem dX9_dirt_33 : decode cX9_dirt 33 = .ok (.aload_n 0, 1) := by decide +kernel
theorem dX9_dirt_34 : decode cX9_dirt 34 = .ok (.iload_n 1, 1) := by decide +kernel
theorem dX9_dirt_35 : decode cX9_dirt 35 = .ok (.iload_n 2, 1) := by decide +kernel
theorem dX9_dirt_36 : decode cX9_dirt 36 = .ok (.iconst 1, 1) := by decide +kernel
theorem dX9_dirt_37 : decode cX9_dirt 37 = .ok (.invokevirtual 68, 3) := by decide +kernel
theorem dX9_dirt_40 : decode cX9_dirt 40 = .ok (.istore 5, 2) := by decide +kernel
theorem dX9_dirt_42 : decode cX9_dirt 42 = .ok (.aload_n 0, 1) := by decide +kernel
theorem dX9_dirt_43 : decode cX9_dirt 43 = .ok (.aload_n 0, 1) := by decide +kernel
theorem dX9_dirt_44 : decode cX9_dirt 44 = .ok (.iload 5, 2) := by decide +kernel
theorem dX9_dirt_46 : decode cX9_dirt 46 = .ok (.iload_n 2, 1) := by decide +kernel
theorem dX9_dirt_47 : decode cX9_dirt 47 = .ok (.invokevirtual 58, 3) := by decide +kernel
theorem dX9_dirt_50 : decode cX9_dirt 50 = .ok (.aload_n 0, 1) := by decide +kernel
theorem dX9_dirt_51 : decode cX9_dirt 51 = .ok (.iload 5, 2) := by decide +kernel
theorem dX9_dirt_53 : decode cX9_dirt 53 = .ok (.iload_n 2, 1) := by decide +kernel
theorem dX9_dirt_54 : decode cX9_dirt 54 = .ok (.invokevirtual 79, 3) := by decide +kernel
theorem dX9_dirt_57 : decode cX9_dirt 57 = .ok (.invokevirtual 82, 3) := by decide +kernel
theorem dX9_dirt_60 : decode cX9_dirt 60 = .ok (.istore 6, 2) := by decide +kernel
theorem dX9_dirt_62 : decode cX9_dirt 62 = .ok (.iload 4, 2) := by decide +kernel
theorem dX9_dirt_64 : decode cX9_dirt 64 = .ok (.istore 7, 2) := by decide +kernel
theorem dX9_dirt_66 : decode cX9_dirt 66 = .ok (.iload 7, 2) := by decide +kernel
theorem dX9_dirt_68 : decode cX9_dirt 68 = .ok (.iload 5, 2) := by decide +kernel
theorem dX9_dirt_70 : decode cX9_dirt 70 = .ok (.if_icmp .eq 41, 3) := by decide +kernel
theorem dX9_dirt_73 : decode cX9_dirt 73 = .ok (.aload_n 0, 1) := by decide +kernel
theorem dX9_dirt_74 : decode cX9_dirt 74 = .ok (.aload_n 0, 1) := by decide +kernel
theorem dX9_dirt_75 : decode cX9_dirt 75 = .ok (.iload 6, 2) := by decide +kernel
theorem dX9_dirt_77 : decode cX9_dirt 77 = .ok (.aload_n 0, 1) := by decide +kernel
theorem dX9_dirt_78 : decode cX9_dirt 78 = .ok (.iload 7, 2) := by decide +kernel
theorem dX9_dirt_80 : decode cX9_dirt 80 = .ok (.iload_n 2, 1) := by decide +kernel
theorem dX9_dirt_81 : decode cX9_dirt 81 = .ok (.invokevirtual 58, 3) := by decide +kernel
theorem dX9_dirt_84 : decode cX9_dirt 84 = .ok (.invokevirtual 82, 3) := by decide +kernel
theorem dX9_dirt_87 : decode cX9_dirt 87 = .ok (.aload_n 0, 1) := by decide +kernel
theorem dX9_dirt_88 : decode cX9_dirt 88 = .ok (.iload 7, 2) := by decide +kernel
theorem dX9_dirt_90 : decode cX9_dirt 90 = .ok (.iload_n 2, 1) := by decide +kernel
theorem dX9_dirt_91 : decode cX9_dirt 91 = .ok (.invokevirtual 79, 3) := by decide +kernel
theorem dX9_dirt_94 : decode cX9_dirt 94 = .ok (.invokevirtual 82, 3) := by decide +kernel
theorem dX9_dirt_97 : decode cX9_dirt 97 = .ok (.istore 6, 2) := by decide +kernel
theorem dX9_dirt_99 : decode cX9_dirt 99 = .ok (.aload_n 0, 1) := by decide +kernel
theorem dX9_dirt_100 : decode cX9_dirt 100 = .ok (.iload 7, 2) := by decide +kernel
theorem dX9_dirt_102 : decode cX9_dirt 102 = .ok (.iconst 1, 1) := by decide +kernel
theorem dX9_dirt_103 : decode cX9_dirt 103 = .ok (.invokevirtual 61, 3) := by decide +kernel
theorem dX9_dirt_106 : decode cX9_dirt 106 = .ok (.istore 7, 2) := by decide +kernel
theorem dX9_dirt_108 : decode cX9_dirt 108 = .ok (.goto (-42), 3) := by decide +kernel
theorem dX9_dirt_111 : decode cX9_dirt 111 = .ok (.iload 6, 2) := by decide +kernel
theorem dX9_dirt_113 : decode cX9_dirt 113 = .ok (.ireturn, 1) := by decide +kernel
theorem dX9_clear_0 : decode cX9_clear 0 = .ok (.aload_n 0, 1) := by decide +kernel
theorem dX9_clear_1 : decode cX9_clear 1 = .ok (.iload_n 1, 1) := by decide +kernel
theorem dX9_clear_2 : decode cX9_clear 2 = .ok (.invokevirtual 72, 3) := by decide +kernel
theorem dX9_clear_5 : decode cX9_clear 5 = .ok (.ifCond .eq 20, 3) := by decide +kernel
theorem dX9_clear_8 : decode cX9_clear 8 = .ok (.aload_n 0, 1) := by decide +kernel
theorem dX9_clear_9 : decode cX9_clear 9 = .ok (.getfield 7, 3) := by decide +kernel
theorem dX9_clear_12 : decode cX9_clear 12 = .ok (.iload_n 1, 1) := by decide +kernel
theorem dX9_clear_13 : decode cX9_clear 13 = .ok (.iconst 4, 1) := by decide +kernel
theorem dX9_clear_14 : decode cX9_clear 14 = .ok (.invokestatic 40, 3) := by decide +kernel
theorem dX9_clear_17 : decode cX9_clear 17 = .ok (.laload, 1) := by decide +kernel
theorem dX9_clear_18 : decode cX9_clear 18 = .ok (.iload_n 2, 1) := by decide +kernel
theorem dX9_clear_19 : decode cX9_clear 19 = .ok (.invokestatic 44, 3) := by decide +kernel
theorem dX9_clear_22 : decode cX9_clear 22 = .ok (.goto 17, 3) := by decide +kernel
theorem dX9_clear_25 : decode cX9_clear 25 = .ok (.aload_n 0, 1) := by decide +kernel
theorem dX9_clear_26 : decode cX9_clear 26 = .ok (.iload_n 1, 1) := by decide +kernel
theorem dX9_clear_27 : decode cX9_clear 27 = .ok (.iload_n 2, 1) := by decide +kernel
theorem dX9_clear_28 : decode cX9_clear 28 = .ok (.invokevirtual 58, 3) := by decide +kernel
theorem dX9_clear_31 : decode cX9_clear 31 = .ok (.aload_n 0, 1) := by decide +kernel
theorem dX9_clear_32 : decode cX9_clear 32 = .ok (.iload_n 1, 1) := by decide +kernel
theorem dX9_clear_33 : decode cX9_clear 33 = .ok (.iload_n 2, 1) := by decide +kernel
theorem dX9_clear_34 : decode cX9_clear 34 = .ok (.iload_n 3, 1) := by decide +kernel
theorem dX9_clear_35 : decode cX9_clear 35 = .ok (.invokevirtual 85, 3) := by decide +kernel
theorem dX9_clear_38 : decode cX9_clear 38 = .ok (.isub, 1) := by decide +kernel
theorem dX9_clear_39 : decode cX9_clear 39 = .ok (.ireturn, 1) := by decide +kernel
theorem dX9_mark_0 : decode cX9_mark 0 = .ok (.aload_n 0, 1) := by decide +kernel
theorem dX9_mark_1 : decode cX9_mark 1 = .ok (.iload_n 1, 1) := by decide +kernel
theorem dX9_mark_2 : decode cX9_mark 2 = .ok (.iload_n 2, 1) := by decide +kernel
theorem dX9_mark_3 : decode cX9_mark 3 = .ok (.iload_n 3, 1) := by decide +kernel
theorem dX9_mark_4 : decode cX9_mark 4 = .ok (.invokevirtual 88, 3) := by decide +kernel
theorem dX9_mark_7 : decode cX9_mark 7 = .ok (.istore 4, 2) := by decide +kernel
theorem dX9_mark_9 : decode cX9_mark 9 = .ok (.iload 4, 2) := by decide +kernel
theorem dX9_mark_11 : decode cX9_mark 11 = .ok (.i2l, 1) := by decide +kernel
theorem dX9_mark_12 : decode cX9_mark 12 = .ok (.aload_n 0, 1) := by decide +kernel
theorem dX9_mark_13 : decode cX9_mark 13 = .ok (.getfield 7, 3) := by decide +kernel
theorem dX9_mark_16 : decode cX9_mark 16 = .ok (.iconst 3, 1) := by decide +kernel
theorem dX9_mark_17 : decode cX9_mark 17 = .ok (.laload, 1) := by decide +kernel
theorem dX9_mark_18 : decode cX9_mark 18 = .ok (.lcmp, 1) := by decide +kernel
theorem dX9_mark_19 : decode cX9_mark 19 = .ok (.ifCond .lt 7, 3) := by decide +kernel
theorem dX9_mark_22 : decode cX9_mark 22 = .ok (.iconst 2, 1) := by decide +kernel
theorem dX9_mark_23 : decode cX9_mark 23 = .ok (.goto 29, 3) := by decide +kernel
theorem dX9_mark_26 : decode cX9_mark 26 = .ok (.aload_n 0, 1) := by decide +kernel
theorem dX9_mark_27 : decode cX9_mark 27 = .ok (.iload_n 1, 1) := by decide +kernel
theorem dX9_mark_28 : decode cX9_mark 28 = .ok (.invokevirtual 72, 3) := by decide +kernel
theorem dX9_mark_31 : decode cX9_mark 31 = .ok (.ifCond .ne 20, 3) := by decide +kernel
theorem dX9_mark_34 : decode cX9_mark 34 = .ok (.iload 4, 2) := by decide +kernel
theorem dX9_mark_36 : decode cX9_mark 36 = .ok (.i2l, 1) := by decide +kernel
theorem dX9_mark_37 : decode cX9_mark 37 = .ok (.aload_n 0, 1) := by decide +kernel
theorem dX9_mark_38 : decode cX9_mark 38 = .ok (.getfield 7, 3) := by decide +kernel
theorem dX9_mark_41 : decode cX9_mark 41 = .ok (.iconst 4, 1) := by decide +kernel
theorem dX9_mark_42 : decode cX9_mark 42 = .ok (.laload, 1) := by decide +kernel
theorem dX9_mark_43 : decode cX9_mark 43 = .ok (.lcmp, 1) := by decide +kernel
theorem dX9_mark_44 : decode cX9_mark 44 = .ok (.ifCond .lt 7, 3) := by decide +kernel
theorem dX9_mark_47 : decode cX9_mark 47 = .ok (.iconst 1, 1) := by decide +kernel
theorem dX9_mark_48 : decode cX9_mark 48 = .ok (.goto 4, 3) := by decide +kernel
theorem dX9_mark_51 : decode cX9_mark 51 = .ok (.iconst 0, 1) := by decide +kernel
theorem dX9_mark_52 : decode cX9_mark 52 = .ok (.ireturn, 1) := by decide +kernel
theorem dX9_outcomeBy_0 : decode cX9_outcomeBy 0 = .ok (.iconst 0, 1) := by decide +kernel
theorem dX9_outcomeBy_1 : decode cX9_outcomeBy 1 = .ok (.istore 4, 2) := by decide +kernel
theorem dX9_outcomeBy_3 : decode cX9_outcomeBy 3 = .ok (.iconst 3, 1) := by decide +kernel
theorem dX9_outcomeBy_4 : decode cX9_outcomeBy 4 = .ok (.istore 5, 2) := by decide +kernel
theorem dX9_outcomeBy_6 : decode cX9_outcomeBy 6 = .ok (.iconst 0, 1) := by decide +kernel
theorem dX9_outcomeBy_7 : decode cX9_outcomeBy 7 = .ok (.istore 6, 2) := by decide +kernel
theorem dX9_outcomeBy_9 : decode cX9_outcomeBy 9 = .ok (.iconst 0, 1) := by decide +kernel
theorem dX9_outcomeBy_10 : decode cX9_outcomeBy 10 = .ok (.istore 7, 2) := by decide +kernel
theorem dX9_outcomeBy_12 : decode cX9_outcomeBy 12 = .ok (.iload 7, 2) := by decide +kernel
theorem dX9_outcomeBy_14 : decode cX9_outcomeBy 14 = .ok (.iconst 3, 1) := by decide +kernel
theorem dX9_outcomeBy_15 : decode cX9_outcomeBy 15 = .ok (.if_icmp .ge 72, 3) := by decide +kernel
theorem dX9_outcomeBy_18 : decode cX9_outcomeBy 18 = .ok (.aload_n 0, 1) := by decide +kernel
theorem dX9_outcomeBy_19 : decode cX9_outcomeBy 19 = .ok (.iload_n 1, 1) := by decide +kernel
theorem dX9_outcomeBy_20 : decode cX9_outcomeBy 20 = .ok (.iconst 3, 1) := by decide +kernel
theorem dX9_outcomeBy_21 : decode cX9_outcomeBy 21 = .ok (.iload_n 2, 1) := by decide +kernel
theorem dX9_outcomeBy_22 : decode cX9_outcomeBy 22 = .ok (.imul, 1) := by decide +kernel
theorem dX9_outcomeBy_23 : decode cX9_outcomeBy 23 = .ok (.iload 7, 2) := by decide +kernel
theorem dX9_outcomeBy_25 : decode cX9_outcomeBy 25 = .ok (.iadd, 1) := by decide +kernel
theorem dX9_outcomeBy_26 : decode cX9_outcomeBy 26 = .ok (.iload_n 3, 1) := by decide +kernel
theorem dX9_outcomeBy_27 : decode cX9_outcomeBy 27 = .ok (.invokevirtual 91, 3) := by decide +kernel
theorem dX9_outcomeBy_30 : decode cX9_outcomeBy 30 = .ok (.istore 8, 2) := by decide +kernel
theorem dX9_outcomeBy_32 : decode cX9_outcomeBy 32 = .ok (.iload 6, 2) := by decide +kernel
theorem dX9_outcomeBy_34 : decode cX9_outcomeBy 34 = .ok (.ifCond .ne 9, 3) := by decide +kernel
theorem dX9_outcomeBy_37 : decode cX9_outcomeBy 37 = .ok (.iload 8, 2) := by decide +kernel
theorem dX9_outcomeBy_39 : decode cX9_outcomeBy 39 = .ok (.iconst 1, 1) := by decide +kernel
theorem dX9_outcomeBy_40 : decode cX9_outcomeBy 40 = .ok (.if_icmp .ne 7, 3) := by decide +kernel
theorem dX9_outcomeBy_43 : decode cX9_outcomeBy 43 = .ok (.iconst 1, 1) := by decide +kernel
theorem dX9_outcomeBy_44 : decode cX9_outcomeBy 44 = .ok (.goto 4, 3) := by decide +kernel
theorem dX9_outcomeBy_47 : decode cX9_outcomeBy 47 = .ok (.iconst 0, 1) := by decide +kernel
theorem dX9_outcomeBy_48 : decode cX9_outcomeBy 48 = .ok (.istore 6, 2) := by decide +kernel
theorem dX9_outcomeBy_50 : decode cX9_outcomeBy 50 = .ok (.iload 4, 2) := by decide +kernel
theorem dX9_outcomeBy_52 : decode cX9_outcomeBy 52 = .ok (.iload 8, 2) := by decide +kernel
theorem dX9_outcomeBy_54 : decode cX9_outcomeBy 54 = .ok (.iconst 2, 1) := by decide +kernel
theorem dX9_outcomeBy_55 : decode cX9_outcomeBy 55 = .ok (.if_icmp .ne 7, 3) := by decide +kernel
theorem dX9_outcomeBy_58 : decode cX9_outcomeBy 58 = .ok (.iconst 1, 1) := by decide +kernel
theorem dX9_outcomeBy_59 : decode cX9_outcomeBy 59 = .ok (.goto 4, 3) := by decide +kernel
theorem dX9_outcomeBy_62 : decode cX9_outcomeBy 62 = .ok (.iconst 0, 1) := by decide +kernel
theorem dX9_outcomeBy_63 : decode cX9_outcomeBy 63 = .ok (.iadd, 1) := by decide +kernel
theorem dX9_outcomeBy_64 : decode cX9_outcomeBy 64 = .ok (.istore 4, 2) := by decide +kernel
theorem dX9_outcomeBy_66 : decode cX9_outcomeBy 66 = .ok (.iload 8, 2) := by decide +kernel
theorem dX9_outcomeBy_68 : decode cX9_outcomeBy 68 = .ok (.iconst 2, 1) := by decide +kernel
theorem dX9_outcomeBy_69 : decode cX9_outcomeBy 69 = .ok (.if_icmp .ne 8, 3) := by decide +kernel
theorem dX9_outcomeBy_72 : decode cX9_outcomeBy 72 = .ok (.iload 7, 2) := by decide +kernel
theorem dX9_outcomeBy_74 : decode cX9_outcomeBy 74 = .ok (.goto 5, 3) := by decide +kernel
theorem dX9_outcomeBy_77 : decode cX9_outcomeBy 77 = .ok (.iload 5, 2) := by decide +kernel
theorem dX9_outcomeBy_79 : decode cX9_outcomeBy 79 = .ok (.istore 5, 2) := by decide +kernel
theorem dX9_outcomeBy_81 : decode cX9_outcomeBy 81 = .ok (.iinc 7 1, 3) := by decide +kernel
theorem dX9_outcomeBy_84 : decode cX9_outcomeBy 84 = .ok (.goto (-72), 3) := by decide +kernel
theorem dX9_outcomeBy_87 : decode cX9_outcomeBy 87 = .ok (.iload 4, 2) := by decide +kernel
theorem dX9_outcomeBy_89 : decode cX9_outcomeBy 89 = .ok (.iconst 1, 1) := by decide +kernel
theorem dX9_outcomeBy_90 : decode cX9_outcomeBy 90 = .ok (.if_icmp .le 7, 3) := by decide +kernel
theorem dX9_outcomeBy_93 : decode cX9_outcomeBy 93 = .ok (.iconst 4, 1) := by decide +kernel
theorem dX9_outcomeBy_94 : decode cX9_outcomeBy 94 = .ok (.goto 14, 3) := by decide +kernel
theorem dX9_outcomeBy_97 : decode cX9_outcomeBy 97 = .ok (.iload 6, 2) := by decide +kernel
theorem dX9_outcomeBy_99 : decode cX9_outcomeBy 99 = .ok (.ifCond .eq 7, 3) := by decide +kernel
theorem dX9_outcomeBy_102 : decode cX9_outcomeBy 102 = .ok (.iconst 5, 1) := by decide +kernel
theorem dX9_outcomeBy_103 : decode cX9_outcomeBy 103 = .ok (.goto 5, 3) := by decide +kernel
theorem dX9_outcomeBy_106 : decode cX9_outcomeBy 106 = .ok (.iload 5, 2) := by decide +kernel
theorem dX9_outcomeBy_108 : decode cX9_outcomeBy 108 = .ok (.ireturn, 1) := by decide +kernel
theorem dX9_length_0 : decode cX9_length 0 = .ok (.aload_n 0, 1) := by decide +kernel
theorem dX9_length_1 : decode cX9_length 1 = .ok (.getfield 7, 3) := by decide +kernel
theorem dX9_length_4 : decode cX9_length 4 = .ok (.iconst 2, 1) := by decide +kernel
theorem dX9_length_5 : decode cX9_length 5 = .ok (.laload, 1) := by decide +kernel
theorem dX9_length_6 : decode cX9_length 6 = .ok (.l2i, 1) := by decide +kernel
theorem dX9_length_7 : decode cX9_length 7 = .ok (.ireturn, 1) := by decide +kernel
theorem dX9_outcomes_0 : decode cX9_outcomes 0 = .ok (.lconst 0, 1) := by decide +kernel
theorem dX9_outcomes_1 : decode cX9_outcomes 1 = .ok (.lstore_n 3, 1) := by decide +kernel
theorem dX9_outcomes_2 : decode cX9_outcomes 2 = .ok (.iconst 3, 1) := by decide +kernel
theorem dX9_outcomes_3 : decode cX9_outcomes 3 = .ok (.istore 5, 2) := by decide +kernel
theorem dX9_outcomes_5 : decode cX9_outcomes 5 = .ok (.iload 5, 2) := by decide +kernel
theorem dX9_outcomes_7 : decode cX9_outcomes 7 = .ok (.ifCond .lt 25, 3) := by decide +kernel
theorem dX9_outcomes_10 : decode cX9_outcomes 10 = .ok (.ldc2_w 94, 3) := by decide +kernel
theorem dX9_outcomes_13 : decode cX9_outcomes 13 = .ok (.lload_n 3, 1) := by decide +kernel
theorem dX9_outcomes_14 : decode cX9_outcomes 14 = .ok (.lmul, 1) := by decide +kernel
theorem dX9_outcomes_15 : decode cX9_outcomes 15 = .ok (.aload_n 0, 1) := by decide +kernel
theorem dX9_outcomes_16 : decode cX9_outcomes 16 = .ok (.iload_n 1, 1) := by decide +kernel
theorem dX9_outcomes_17 : decode cX9_outcomes 17 = .ok (.iload 5, 2) := by decide +kernel
theorem dX9_outcomes_19 : decode cX9_outcomes 19 = .ok (.iload_n 2, 1) := by decide +kernel
theorem dX9_outcomes_20 : decode cX9_outcomes 20 = .ok (.invokevirtual 96, 3) := by decide +kernel
theorem dX9_outcomes_23 : decode cX9_outcomes 23 = .ok (.i2l, 1) := by decide +kernel
theorem dX9_outcomes_24 : decode cX9_outcomes 24 = .ok (.ladd, 1) := by decide +kernel
theorem dX9_outcomes_25 : decode cX9_outcomes 25 = .ok (.lstore_n 3, 1) := by decide +kernel
theorem dX9_outcomes_26 : decode cX9_outcomes 26 = .ok (.iinc 5 (-1), 3) := by decide +kernel
theorem dX9_outcomes_29 : decode cX9_outcomes 29 = .ok (.goto (-24), 3) := by decide +kernel
theorem dX9_outcomes_32 : decode cX9_outcomes 32 = .ok (.lload_n 3, 1) := by decide +kernel
theorem dX9_outcomes_33 : decode cX9_outcomes 33 = .ok (.lreturn, 1) := by decide +kernel
theorem dX9_outcomeIn_0 : decode cX9_outcomeIn 0 = .ok (.lload_n 0, 1) := by decide +kernel
theorem dX9_outcomeIn_1 : decode cX9_outcomeIn 1 = .ok (.iconst 3, 1) := by decide +kernel
theorem dX9_outcomeIn_2 : decode cX9_outcomeIn 2 = .ok (.iload_n 2, 1) := by decide +kernel
theorem dX9_outcomeIn_3 : decode cX9_outcomeIn 3 = .ok (.imul, 1) := by decide +kernel
theorem dX9_outcomeIn_4 : decode cX9_outcomeIn 4 = .ok (.lshr, 1) := by decide +kernel
theorem dX9_outcomeIn_5 : decode cX9_outcomeIn 5 = .ok (.ldc2_w 99, 3) := by decide +kernel
theorem dX9_outcomeIn_8 : decode cX9_outcomeIn 8 = .ok (.land, 1) := by decide +kernel
theorem dX9_outcomeIn_9 : decode cX9_outcomeIn 9 = .ok (.l2i, 1) := by decide +kernel
theorem dX9_outcomeIn_10 : decode cX9_outcomeIn 10 = .ok (.ireturn, 1) := by decide +kernel
theorem dX9_differences_0 : decode cX9_differences 0 = .ok (.iconst 0, 1) := by decide +kernel
theorem dX9_differences_1 : decode cX9_differences 1 = .ok (.istore 4, 2) := by decide +kernel
theorem dX9_differences_3 : decode cX9_differences 3 = .ok (.iconst 0, 1) := by decide +kernel
theorem dX9_differences_4 : decode cX9_differences 4 = .ok (.istore 5, 2) := by decide +kernel
theorem dX9_differences_6 : decode cX9_differences 6 = .ok (.iload 5, 2) := by decide +kernel
theorem dX9_differences_8 : decode cX9_differences 8 = .ok (.iconst 4, 1) := by decide +kernel
theorem dX9_differences_9 : decode cX9_differences 9 = .ok (.if_icmp .ge 37, 3) := by decide +kernel
theorem dX9_differences_12 : decode cX9_differences 12 = .ok (.iload 4, 2) := by decide +kernel
theorem dX9_differences_14 : decode cX9_differences 14 = .ok (.lload_n 0, 1) := by decide +kernel
theorem dX9_differences_15 : decode cX9_differences 15 = .ok (.iload 5, 2) := by decide +kernel
theorem dX9_differences_17 : decode cX9_differences 17 = .ok (.invokestatic 101, 3) := by decide +kernel
theorem dX9_differences_20 : decode cX9_differences 20 = .ok (.lload_n 2, 1) := by decide +kernel
theorem dX9_differences_21 : decode cX9_differences 21 = .ok (.iload 5, 2) := by decide +kernel
theorem dX9_differences_23 : decode cX9_differences 23 = .ok (.invokestatic 101, 3) := by decide +kernel
theorem dX9_differences_26 : decode cX9_differences 26 = .ok (.if_icmp .eq 10, 3) := by decide +kernel
theorem dX9_differences_29 : decode cX9_differences 29 = .ok (.iconst 1, 1) := by decide +kernel
theorem dX9_differences_30 : decode cX9_differences 30 = .ok (.iload 5, 2) := by decide +kernel
theorem dX9_differences_32 : decode cX9_differences 32 = .ok (.ishl, 1) := by decide +kernel
theorem dX9_differences_33 : decode cX9_differences 33 = .ok (.goto 4, 3) := by decide +kernel
theorem dX9_differences_36 : decode cX9_differences 36 = .ok (.iconst 0, 1) := by decide +kernel
theorem dX9_differences_37 : decode cX9_differences 37 = .ok (.ior, 1) := by decide +kernel
theorem dX9_differences_38 : decode cX9_differences 38 = .ok (.istore 4, 2) := by decide +kernel
theorem dX9_differences_40 : decode cX9_differences 40 = .ok (.iinc 5 1, 3) := by decide +kernel
theorem dX9_differences_43 : decode cX9_differences 43 = .ok (.goto (-37), 3) := by decide +kernel
theorem dX9_differences_46 : decode cX9_differences 46 = .ok (.iload 4, 2) := by decide +kernel
theorem dX9_differences_48 : decode cX9_differences 48 = .ok (.ireturn, 1) := by decide +kernel
theorem dX9_v_0 : decode cX9_v 0 = .ok (.sipush 209, 3) := by decide +kernel
theorem dX9_v_3 : decode cX9_v 3 = .ok (.bipush 41, 2) := by decide +kernel
theorem dX9_v_5 : decode cX9_v 5 = .ok (.iload_n 0, 1) := by decide +kernel
theorem dX9_v_6 : decode cX9_v 6 = .ok (.imul, 1) := by decide +kernel
theorem dX9_v_7 : decode cX9_v 7 = .ok (.iadd, 1) := by decide +kernel
theorem dX9_v_8 : decode cX9_v 8 = .ok (.iload_n 1, 1) := by decide +kernel
theorem dX9_v_9 : decode cX9_v 9 = .ok (.iadd, 1) := by decide +kernel
theorem dX9_v_10 : decode cX9_v 10 = .ok (.ireturn, 1) := by decide +kernel
theorem dX9_isVersion_0 : decode cX9_isVersion 0 = .ok (.iload_n 1, 1) := by decide +kernel
theorem dX9_isVersion_1 : decode cX9_isVersion 1 = .ok (.i2l, 1) := by decide +kernel
theorem dX9_isVersion_2 : decode cX9_isVersion 2 = .ok (.lconst 0, 1) := by decide +kernel
theorem dX9_isVersion_3 : decode cX9_isVersion 3 = .ok (.aload_n 0, 1) := by decide +kernel
theorem dX9_isVersion_4 : decode cX9_isVersion 4 = .ok (.getfield 7, 3) := by decide +kernel
theorem dX9_isVersion_7 : decode cX9_isVersion 7 = .ok (.iconst 1, 1) := by decide +kernel
theorem dX9_isVersion_8 : decode cX9_isVersion 8 = .ok (.laload, 1) := by decide +kernel
theorem dX9_isVersion_9 : decode cX9_isVersion 9 = .ok (.lconst 1, 1) := by decide +kernel
theorem dX9_isVersion_10 : decode cX9_isVersion 10 = .ok (.lsub, 1) := by decide +kernel
theorem dX9_isVersion_11 : decode cX9_isVersion 11 = .ok (.invokestatic 32, 3) := by decide +kernel
theorem dX9_isVersion_14 : decode cX9_isVersion 14 = .ok (.ireturn, 1) := by decide +kernel
theorem dX9_changes_0 : decode cX9_changes 0 = .ok (.aload_n 0, 1) := by decide +kernel
theorem dX9_changes_1 : decode cX9_changes 1 = .ok (.getfield 7, 3) := by decide +kernel
theorem dX9_changes_4 : decode cX9_changes 4 = .ok (.iconst 1, 1) := by decide +kernel
theorem dX9_changes_5 : decode cX9_changes 5 = .ok (.laload, 1) := by decide +kernel
theorem dX9_changes_6 : decode cX9_changes 6 = .ok (.l2i, 1) := by decide +kernel
theorem dX9_changes_7 : decode cX9_changes 7 = .ok (.iconst 1, 1) := by decide +kernel
theorem dX9_changes_8 : decode cX9_changes 8 = .ok (.isub, 1) := by decide +kernel
theorem dX9_changes_9 : decode cX9_changes 9 = .ok (.istore_n 2, 1) := by decide +kernel
theorem dX9_changes_10 : decode cX9_changes 10 = .ok (.iload_n 2, 1) := by decide +kernel
theorem dX9_changes_11 : decode cX9_changes 11 = .ok (.ifCond .lt 19, 3) := by decide +kernel
theorem dX9_changes_14 : decode cX9_changes 14 = .ok (.iload_n 1, 1) := by decide +kernel
theorem dX9_changes_15 : decode cX9_changes 15 = .ok (.i2l, 1) := by decide +kernel
theorem dX9_changes_16 : decode cX9_changes 16 = .ok (.aload_n 0, 1) := by decide +kernel
theorem dX9_changes_17 : decode cX9_changes 17 = .ok (.getfield 7, 3) := by decide +kernel
theorem dX9_changes_20 : decode cX9_changes 20 = .ok (.iload_n 2, 1) := by decide +kernel
theorem dX9_changes_21 : decode cX9_changes 21 = .ok (.iconst 0, 1) := by decide +kernel
theorem dX9_changes_22 : decode cX9_changes 22 = .ok (.invokestatic 104, 3) := by decide +kernel
theorem dX9_changes_25 : decode cX9_changes 25 = .ok (.laload, 1) := by decide +kernel
theorem dX9_changes_26 : decode cX9_changes 26 = .ok (.lcmp, 1) := by decide +kernel
theorem dX9_changes_27 : decode cX9_changes 27 = .ok (.ifCond .lt 5, 3) := by decide +kernel
theorem dX9_changes_30 : decode cX9_changes 30 = .ok (.iconst 0, 1) := by decide +kernel
theorem dX9_changes_31 : decode cX9_changes 31 = .ok (.ireturn, 1) := by decide +kernel
theorem dX9_changes_32 : decode cX9_changes 32 = .ok (.aload_n 0, 1) := by decide +kernel
theorem dX9_changes_33 : decode cX9_changes 33 = .ok (.iload_n 1, 1) := by decide +kernel
theorem dX9_changes_34 : decode cX9_changes 34 = .ok (.aload_n 0, 1) := by decide +kernel
theorem dX9_changes_35 : decode cX9_changes 35 = .ok (.invokevirtual 107, 3) := by decide +kernel
theorem dX9_changes_38 : decode cX9_changes 38 = .ok (.invokevirtual 111, 3) := by decide +kernel
theorem dX9_changes_41 : decode cX9_changes 41 = .ok (.aload_n 0, 1) := by decide +kernel
theorem dX9_changes_42 : decode cX9_changes 42 = .ok (.getfield 7, 3) := by decide +kernel
theorem dX9_changes_45 : decode cX9_changes 45 = .ok (.iload_n 2, 1) := by decide +kernel
theorem dX9_changes_46 : decode cX9_changes 46 = .ok (.iconst 1, 1) := by decide +kernel
theorem dX9_changes_47 : decode cX9_changes 47 = .ok (.iload_n 1, 1) := by decide +kernel
theorem dX9_changes_48 : decode cX9_changes 48 = .ok (.iadd, 1) := by decide +kernel
theorem dX9_changes_49 : decode cX9_changes 49 = .ok (.invokestatic 104, 3) := by decide +kernel
theorem dX9_changes_52 : decode cX9_changes 52 = .ok (.laload, 1) := by decide +kernel
theorem dX9_changes_53 : decode cX9_changes 53 = .ok (.invokestatic 115, 3) := by decide +kernel
theorem dX9_changes_56 : decode cX9_changes 56 = .ok (.ireturn, 1) := by decide +kernel
theorem dX9_doubtful_0 : decode cX9_doubtful 0 = .ok (.iconst 0, 1) := by decide +kernel
theorem dX9_doubtful_1 : decode cX9_doubtful 1 = .ok (.istore_n 2, 1) := by decide +kernel
theorem dX9_doubtful_2 : decode cX9_doubtful 2 = .ok (.iconst 0, 1) := by decide +kernel
theorem dX9_doubtful_3 : decode cX9_doubtful 3 = .ok (.istore_n 3, 1) := by decide +kernel
theorem dX9_doubtful_4 : decode cX9_doubtful 4 = .ok (.iload_n 3, 1) := by decide +kernel
theorem dX9_doubtful_5 : decode cX9_doubtful 5 = .ok (.iconst 4, 1) := by decide +kernel
theorem dX9_doubtful_6 : decode cX9_doubtful 6 = .ok (.if_icmp .ge 33, 3) := by decide +kernel
theorem dX9_doubtful_9 : decode cX9_doubtful 9 = .ok (.iload_n 2, 1) := by decide +kernel
theorem dX9_doubtful_10 : decode cX9_doubtful 10 = .ok (.aload_n 0, 1) := by decide +kernel
theorem dX9_doubtful_11 : decode cX9_doubtful 11 = .ok (.iload_n 1, 1) := by decide +kernel
theorem dX9_doubtful_12 : decode cX9_doubtful 12 = .ok (.iload_n 3, 1) := by decide +kernel
theorem dX9_doubtful_13 : decode cX9_doubtful 13 = .ok (.aload_n 0, 1) := by decide +kernel
theorem dX9_doubtful_14 : decode cX9_doubtful 14 = .ok (.invokevirtual 107, 3) := by decide +kernel
theorem dX9_doubtful_17 : decode cX9_doubtful 17 = .ok (.invokevirtual 96, 3) := by decide +kernel
theorem dX9_doubtful_20 : decode cX9_doubtful 20 = .ok (.iconst 5, 1) := by decide +kernel
theorem dX9_doubtful_21 : decode cX9_doubtful 21 = .ok (.if_icmp .ne 9, 3) := by decide +kernel
theorem dX9_doubtful_24 : decode cX9_doubtful 24 = .ok (.iconst 1, 1) := by decide +kernel
theorem dX9_doubtful_25 : decode cX9_doubtful 25 = .ok (.iload_n 3, 1) := by decide +kernel
theorem dX9_doubtful_26 : decode cX9_doubtful 26 = .ok (.ishl, 1) := by decide +kernel
theorem dX9_doubtful_27 : decode cX9_doubtful 27 = .ok (.goto 4, 3) := by decide +kernel
theorem dX9_doubtful_30 : decode cX9_doubtful 30 = .ok (.iconst 0, 1) := by decide +kernel
theorem dX9_doubtful_31 : decode cX9_doubtful 31 = .ok (.ior, 1) := by decide +kernel
theorem dX9_doubtful_32 : decode cX9_doubtful 32 = .ok (.istore_n 2, 1) := by decide +kernel
theorem dX9_doubtful_33 : decode cX9_doubtful 33 = .ok (.iinc 3 1, 3) := by decide +kernel
theorem dX9_doubtful_36 : decode cX9_doubtful 36 = .ok (.goto (-32), 3) := by decide +kernel
theorem dX9_doubtful_39 : decode cX9_doubtful 39 = .ok (.iload_n 2, 1) := by decide +kernel
theorem dX9_doubtful_40 : decode cX9_doubtful 40 = .ok (.ireturn, 1) := by decide +kernel
theorem dX9_isInPool_0 : decode cX9_isInPool 0 = .ok (.aload_n 0, 1) := by decide +kernel
theorem dX9_isInPool_1 : decode cX9_isInPool 1 = .ok (.getfield 7, 3) := by decide +kernel
theorem dX9_isInPool_4 : decode cX9_isInPool 4 = .ok (.iload_n 1, 1) := by decide +kernel
theorem dX9_isInPool_5 : decode cX9_isInPool 5 = .ok (.iconst 3, 1) := by decide +kernel
theorem dX9_isInPool_6 : decode cX9_isInPool 6 = .ok (.invokestatic 40, 3) := by decide +kernel
theorem dX9_isInPool_9 : decode cX9_isInPool 9 = .ok (.laload, 1) := by decide +kernel
theorem dX9_isInPool_10 : decode cX9_isInPool 10 = .ok (.lconst 0, 1) := by decide +kernel
theorem dX9_isInPool_11 : decode cX9_isInPool 11 = .ok (.lcmp, 1) := by decide +kernel
theorem dX9_isInPool_12 : decode cX9_isInPool 12 = .ok (.ifCond .ne 23, 3) := by decide +kernel
theorem dX9_isInPool_15 : decode cX9_isInPool 15 = .ok (.aload_n 0, 1) := by decide +kernel
theorem dX9_isInPool_16 : decode cX9_isInPool 16 = .ok (.iload_n 1, 1) := by decide +kernel
theorem dX9_isInPool_17 : decode cX9_isInPool 17 = .ok (.invokevirtual 119, 3) := by decide +kernel
theorem dX9_isInPool_20 : decode cX9_isInPool 20 = .ok (.ifCond .ne 11, 3) := by decide +kernel
theorem dX9_isInPool_23 : decode cX9_isInPool 23 = .ok (.aload_n 0, 1) := by decide +kernel
theorem dX9_isInPool_24 : decode cX9_isInPool 24 = .ok (.iload_n 1, 1) := by decide +kernel
theorem dX9_isInPool_25 : decode cX9_isInPool 25 = .ok (.invokevirtual 123, 3) := by decide +kernel
theorem dX9_isInPool_28 : decode cX9_isInPool 28 = .ok (.ifCond .eq 7, 3) := by decide +kernel
theorem dX9_isInPool_31 : decode cX9_isInPool 31 = .ok (.iconst 1, 1) := by decide +kernel
theorem dX9_isInPool_32 : decode cX9_isInPool 32 = .ok (.goto 4, 3) := by decide +kernel
theorem dX9_isInPool_35 : decode cX9_isInPool 35 = .ok (.iconst 0, 1) := by decide +kernel
theorem dX9_isInPool_36 : decode cX9_isInPool 36 = .ok (.ireturn, 1) := by decide +kernel
theorem dX9_laysPool_0 : decode cX9_laysPool 0 = .ok (.iconst 0, 1) := by decide +kernel
theorem dX9_laysPool_1 : decode cX9_laysPool 1 = .ok (.istore_n 1, 1) := by decide +kernel
theorem dX9_laysPool_2 : decode cX9_laysPool 2 = .ok (.iconst 0, 1) := by decide +kernel
theorem dX9_laysPool_3 : decode cX9_laysPool 3 = .ok (.istore_n 2, 1) := by decide +kernel
theorem dX9_laysPool_4 : decode cX9_laysPool 4 = .ok (.iload_n 2, 1) := by decide +kernel
theorem dX9_laysPool_5 : decode cX9_laysPool 5 = .ok (.i2l, 1) := by decide +kernel
theorem dX9_laysPool_6 : decode cX9_laysPool 6 = .ok (.aload_n 0, 1) := by decide +kernel
theorem dX9_laysPool_7 : decode cX9_laysPool 7 = .ok (.getfield 7, 3) := by decide +kernel
theorem dX9_laysPool_10 : decode cX9_laysPool 10 = .ok (.iconst 0, 1) := by decide +kernel
theorem dX9_laysPool_11 : decode cX9_laysPool 11 = .ok (.laload, 1) := by decide +kernel
theorem dX9_laysPool_12 : decode cX9_laysPool 12 = .ok (.lcmp, 1) := by decide +kernel
theorem dX9_laysPool_13 : decode cX9_laysPool 13 = .ok (.ifCond .ge 27, 3) := by decide +kernel
theorem dX9_laysPool_16 : decode cX9_laysPool 16 = .ok (.aload_n 0, 1) := by decide +kernel
theorem dX9_laysPool_17 : decode cX9_laysPool 17 = .ok (.iload_n 2, 1) := by decide +kernel
theorem dX9_laysPool_18 : decode cX9_laysPool 18 = .ok (.invokevirtual 126, 3) := by decide +kernel
theorem dX9_laysPool_21 : decode cX9_laysPool 21 = .ok (.ifCond .eq 13, 3) := by decide +kernel
theorem dX9_laysPool_24 : decode cX9_laysPool 24 = .ok (.aload_n 0, 1) := by decide +kernel
theorem dX9_laysPool_25 : decode cX9_laysPool 25 = .ok (.getfield 19, 3) := by decide +kernel
theorem dX9_laysPool_28 : decode cX9_laysPool 28 = .ok (.iload_n 1, 1) := by decide +kernel
theorem dX9_laysPool_29 : decode cX9_laysPool 29 = .ok (.iload_n 2, 1) := by decide +kernel
theorem dX9_laysPool_30 : decode cX9_laysPool 30 = .ok (.iastore, 1) := by decide +kernel
theorem dX9_laysPool_31 : decode cX9_laysPool 31 = .ok (.iinc 1 1, 3) := by decide +kernel
theorem dX9_laysPool_34 : decode cX9_laysPool 34 = .ok (.iinc 2 1, 3) := by decide +kernel
theorem dX9_laysPool_37 : decode cX9_laysPool 37 = .ok (.goto (-33), 3) := by decide +kernel
theorem dX9_laysPool_40 : decode cX9_laysPool 40 = .ok (.iload_n 1, 1) := by decide +kernel
theorem dX9_laysPool_41 : decode cX9_laysPool 41 = .ok (.ireturn, 1) := by decide +kernel
theorem dX9_changing_0 : decode cX9_changing 0 = .ok (.iconst 0, 1) := by decide +kernel
theorem dX9_changing_1 : decode cX9_changing 1 = .ok (.istore_n 2, 1) := by decide +kernel
theorem dX9_changing_2 : decode cX9_changing 2 = .ok (.iconst 0, 1) := by decide +kernel
theorem dX9_changing_3 : decode cX9_changing 3 = .ok (.istore_n 3, 1) := by decide +kernel
theorem dX9_changing_4 : decode cX9_changing 4 = .ok (.iload_n 3, 1) := by decide +kernel
theorem dX9_changing_5 : decode cX9_changing 5 = .ok (.i2l, 1) := by decide +kernel
theorem dX9_changing_6 : decode cX9_changing 6 = .ok (.aload_n 0, 1) := by decide +kernel
theorem dX9_changing_7 : decode cX9_changing 7 = .ok (.getfield 7, 3) := by decide +kernel
theorem dX9_changing_10 : decode cX9_changing 10 = .ok (.iconst 0, 1) := by decide +kernel
theorem dX9_changing_11 : decode cX9_changing 11 = .ok (.laload, 1) := by decide +kernel
theorem dX9_changing_12 : decode cX9_changing 12 = .ok (.lcmp, 1) := by decide +kernel
theorem dX9_changing_13 : decode cX9_changing 13 = .ok (.ifCond .ge 37, 3) := by decide +kernel
theorem dX9_changing_16 : decode cX9_changing 16 = .ok (.iload_n 2, 1) := by decide +kernel
theorem dX9_changing_17 : decode cX9_changing 17 = .ok (.aload_n 0, 1) := by decide +kernel
theorem dX9_changing_18 : decode cX9_changing 18 = .ok (.iload_n 3, 1) := by decide +kernel
theorem dX9_changing_19 : decode cX9_changing 19 = .ok (.invokevirtual 123, 3) := by decide +kernel
theorem dX9_changing_22 : decode cX9_changing 22 = .ok (.ifCond .eq 19, 3) := by decide +kernel
theorem dX9_changing_25 : decode cX9_changing 25 = .ok (.iload_n 1, 1) := by decide +kernel
theorem dX9_changing_26 : decode cX9_changing 26 = .ok (.ifCond .eq 11, 3) := by decide +kernel
theorem dX9_changing_29 : decode cX9_changing 29 = .ok (.aload_n 0, 1) := by decide +kernel
theorem dX9_changing_30 : decode cX9_changing 30 = .ok (.iload_n 3, 1) := by decide +kernel
theorem dX9_changing_31 : decode cX9_changing 31 = .ok (.invokevirtual 72, 3) := by decide +kernel
theorem dX9_changing_34 : decode cX9_changing 34 = .ok (.ifCond .ne 7, 3) := by decide +kernel
theorem dX9_changing_37 : decode cX9_changing 37 = .ok (.iconst 1, 1) := by decide +kernel
theorem dX9_changing_38 : decode cX9_changing 38 = .ok (.goto 4, 3) := by decide +kernel
theorem dX9_changing_41 : decode cX9_changing 41 = .ok (.iconst 0, 1) := by decide +kernel
theorem dX9_changing_42 : decode cX9_changing 42 = .ok (.iadd, 1) := by decide +kernel
theorem dX9_changing_43 : decode cX9_changing 43 = .ok (.istore_n 2, 1) := by decide +kernel
theorem dX9_changing_44 : decode cX9_changing 44 = .ok (.iinc 3 1, 3) := by decide +kernel
theorem dX9_changing_47 : decode cX9_changing 47 = .ok (.goto (-43), 3) := by decide +kernel
theorem dX9_changing_50 : decode cX9_changing 50 = .ok (.iload_n 2, 1) := by decide +kernel
theorem dX9_changing_51 : decode cX9_changing 51 = .ok (.ireturn, 1) := by decide +kernel
theorem dX9_inState_0 : decode cX9_inState 0 = .ok (.iconst 0, 1) := by decide +kernel
theorem dX9_inState_1 : decode cX9_inState 1 = .ok (.istore_n 2, 1) := by decide +kernel
theorem dX9_inState_2 : decode cX9_inState 2 = .ok (.iconst 0, 1) := by decide +kernel
theorem dX9_inState_3 : decode cX9_inState 3 = .ok (.istore_n 3, 1) := by decide +kernel
theorem dX9_inState_4 : decode cX9_inState 4 = .ok (.iload_n 3, 1) := by decide +kernel
theorem dX9_inState_5 : decode cX9_inState 5 = .ok (.i2l, 1) := by decide +kernel
theorem dX9_inState_6 : decode cX9_inState 6 = .ok (.aload_n 0, 1) := by decide +kernel
theorem dX9_inState_7 : decode cX9_inState 7 = .ok (.getfield 7, 3) := by decide +kernel
theorem dX9_inState_10 : decode cX9_inState 10 = .ok (.iconst 0, 1) := by decide +kernel
theorem dX9_inState_11 : decode cX9_inState 11 = .ok (.laload, 1) := by decide +kernel
theorem dX9_inState_12 : decode cX9_inState 12 = .ok (.lcmp, 1) := by decide +kernel
theorem dX9_inState_13 : decode cX9_inState 13 = .ok (.ifCond .ge 33, 3) := by decide +kernel
theorem dX9_inState_16 : decode cX9_inState 16 = .ok (.iload_n 2, 1) := by decide +kernel
theorem dX9_inState_17 : decode cX9_inState 17 = .ok (.aload_n 0, 1) := by decide +kernel
theorem dX9_inState_18 : decode cX9_inState 18 = .ok (.getfield 7, 3) := by decide +kernel
theorem dX9_inState_21 : decode cX9_inState 21 = .ok (.iload_n 3, 1) := by decide +kernel
theorem dX9_inState_22 : decode cX9_inState 22 = .ok (.iconst 3, 1) := by decide +kernel
theorem dX9_inState_23 : decode cX9_inState 23 = .ok (.invokestatic 40, 3) := by decide +kernel
theorem dX9_inState_26 : decode cX9_inState 26 = .ok (.laload, 1) := by decide +kernel
theorem dX9_inState_27 : decode cX9_inState 27 = .ok (.iload_n 1, 1) := by decide +kernel
theorem dX9_inState_28 : decode cX9_inState 28 = .ok (.i2l, 1) := by decide +kernel
theorem dX9_inState_29 : decode cX9_inState 29 = .ok (.lcmp, 1) := by decide +kernel
theorem dX9_inState_30 : decode cX9_inState 30 = .ok (.ifCond .ne 7, 3) := by decide +kernel
theorem dX9_inState_33 : decode cX9_inState 33 = .ok (.iconst 1, 1) := by decide +kernel
theorem dX9_inState_34 : decode cX9_inState 34 = .ok (.goto 4, 3) := by decide +kernel
theorem dX9_inState_37 : decode cX9_inState 37 = .ok (.iconst 0, 1) := by decide +kernel
theorem dX9_inState_38 : decode cX9_inState 38 = .ok (.iadd, 1) := by decide +kernel
theorem dX9_inState_39 : decode cX9_inState 39 = .ok (.istore_n 2, 1) := by decide +kernel
theorem dX9_inState_40 : decode cX9_inState 40 = .ok (.iinc 3 1, 3) := by decide +kernel
theorem dX9_inState_43 : decode cX9_inState 43 = .ok (.goto (-39), 3) := by decide +kernel
theorem dX9_inState_46 : decode cX9_inState 46 = .ok (.iload_n 2, 1) := by decide +kernel
theorem dX9_inState_47 : decode cX9_inState 47 = .ok (.ireturn, 1) := by decide +kernel
theorem dX9_ofMachine_0 : decode cX9_ofMachine 0 = .ok (.iconst 0, 1) := by decide +kernel
theorem dX9_ofMachine_1 : decode cX9_ofMachine 1 = .ok (.istore_n 2, 1) := by decide +kernel
theorem dX9_ofMachine_2 : decode cX9_ofMachine 2 = .ok (.iconst 0, 1) := by decide +kernel
theorem dX9_ofMachine_3 : decode cX9_ofMachine 3 = .ok (.istore_n 3, 1) := by decide +kernel
theorem dX9_ofMachine_4 : decode cX9_ofMachine 4 = .ok (.iload_n 3, 1) := by decide +kernel
theorem dX9_ofMachine_5 : decode cX9_ofMachine 5 = .ok (.i2l, 1) := by decide +kernel
theorem dX9_ofMachine_6 : decode cX9_ofMachine 6 = .ok (.aload_n 0, 1) := by decide +kernel
theorem dX9_ofMachine_7 : decode cX9_ofMachine 7 = .ok (.getfield 7, 3) := by decide +kernel
theorem dX9_ofMachine_10 : decode cX9_ofMachine 10 = .ok (.iconst 0, 1) := by decide +kernel
theorem dX9_ofMachine_11 : decode cX9_ofMachine 11 = .ok (.laload, 1) := by decide +kernel
theorem dX9_ofMachine_12 : decode cX9_ofMachine 12 = .ok (.lcmp, 1) := by decide +kernel
theorem dX9_ofMachine_13 : decode cX9_ofMachine 13 = .ok (.ifCond .ge 33, 3) := by decide +kernel
theorem dX9_ofMachine_16 : decode cX9_ofMachine 16 = .ok (.iload_n 2, 1) := by decide +kernel
theorem dX9_ofMachine_17 : decode cX9_ofMachine 17 = .ok (.aload_n 0, 1) := by decide +kernel
theorem dX9_ofMachine_18 : decode cX9_ofMachine 18 = .ok (.getfield 7, 3) := by decide +kernel
theorem dX9_ofMachine_21 : decode cX9_ofMachine 21 = .ok (.iload_n 3, 1) := by decide +kernel
theorem dX9_ofMachine_22 : decode cX9_ofMachine 22 = .ok (.iconst 0, 1) := by decide +kernel
theorem dX9_ofMachine_23 : decode cX9_ofMachine 23 = .ok (.invokestatic 40, 3) := by decide +kernel
theorem dX9_ofMachine_26 : decode cX9_ofMachine 26 = .ok (.laload, 1) := by decide +kernel
theorem dX9_ofMachine_27 : decode cX9_ofMachine 27 = .ok (.iload_n 1, 1) := by decide +kernel
theorem dX9_ofMachine_28 : decode cX9_ofMachine 28 = .ok (.i2l, 1) := by decide +kernel
theorem dX9_ofMachine_29 : decode cX9_ofMachine 29 = .ok (.lcmp, 1) := by decide +kernel
theorem dX9_ofMachine_30 : decode cX9_ofMachine 30 = .ok (.ifCond .ne 7, 3) := by decide +kernel
theorem dX9_ofMachine_33 : decode cX9_ofMachine 33 = .ok (.iconst 1, 1) := by decide +kernel
theorem dX9_ofMachine_34 : decode cX9_ofMachine 34 = .ok (.goto 4, 3) := by decide +kernel
theorem dX9_ofMachine_37 : decode cX9_ofMachine 37 = .ok (.iconst 0, 1) := by decide +kernel
theorem dX9_ofMachine_38 : decode cX9_ofMachine 38 = .ok (.iadd, 1) := by decide +kernel
theorem dX9_ofMachine_39 : decode cX9_ofMachine 39 = .ok (.istore_n 2, 1) := by decide +kernel
theorem dX9_ofMachine_40 : decode cX9_ofMachine 40 = .ok (.iinc 3 1, 3) := by decide +kernel
theorem dX9_ofMachine_43 : decode cX9_ofMachine 43 = .ok (.goto (-39), 3) := by decide +kernel
theorem dX9_ofMachine_46 : decode cX9_ofMachine 46 = .ok (.iload_n 2, 1) := by decide +kernel
theorem dX9_ofMachine_47 : decode cX9_ofMachine 47 = .ok (.ireturn, 1) := by decide +kernel
theorem dX9_scans_0 : decode cX9_scans 0 = .ok (.lload_n 1, 1) := by decide +kernel
theorem dX9_scans_1 : decode cX9_scans 1 = .ok (.lconst 0, 1) := by decide +kernel
theorem dX9_scans_2 : decode cX9_scans 2 = .ok (.ldc2_w 48, 3) := by decide +kernel
theorem dX9_scans_5 : decode cX9_scans 5 = .ok (.invokestatic 32, 3) := by decide +kernel
theorem dX9_scans_8 : decode cX9_scans 8 = .ok (.ifCond .eq 10, 3) := by decide +kernel
theorem dX9_scans_11 : decode cX9_scans 11 = .ok (.lload_n 3, 1) := by decide +kernel
theorem dX9_scans_12 : decode cX9_scans 12 = .ok (.invokestatic 129, 3) := by decide +kernel
theorem dX9_scans_15 : decode cX9_scans 15 = .ok (.ifCond .ne 5, 3) := by decide +kernel
theorem dX9_scans_18 : decode cX9_scans 18 = .ok (.iconst (-1), 1) := by decide +kernel
theorem dX9_scans_19 : decode cX9_scans 19 = .ok (.ireturn, 1) := by decide +kernel
theorem dX9_scans_20 : decode cX9_scans 20 = .ok (.aload_n 0, 1) := by decide +kernel
theorem dX9_scans_21 : decode cX9_scans 21 = .ok (.getfield 7, 3) := by decide +kernel
theorem dX9_scans_24 : decode cX9_scans 24 = .ok (.iconst 0, 1) := by decide +kernel
theorem dX9_scans_25 : decode cX9_scans 25 = .ok (.laload, 1) := by decide +kernel
theorem dX9_scans_26 : decode cX9_scans 26 = .ok (.ldc2_w 133, 3) := by decide +kernel
theorem dX9_scans_29 : decode cX9_scans 29 = .ok (.lcmp, 1) := by decide +kernel
theorem dX9_scans_30 : decode cX9_scans 30 = .ok (.ifCond .ne 6, 3) := by decide +kernel
theorem dX9_scans_33 : decode cX9_scans 33 = .ok (.bipush (-3), 2) := by decide +kernel
theorem dX9_scans_35 : decode cX9_scans 35 = .ok (.ireturn, 1) := by decide +kernel
theorem dX9_scans_36 : decode cX9_scans 36 = .ok (.aload_n 0, 1) := by decide +kernel
theorem dX9_scans_37 : decode cX9_scans 37 = .ok (.getfield 7, 3) := by decide +kernel
theorem dX9_scans_40 : decode cX9_scans 40 = .ok (.iconst 0, 1) := by decide +kernel
theorem dX9_scans_41 : decode cX9_scans 41 = .ok (.laload, 1) := by decide +kernel
theorem dX9_scans_42 : decode cX9_scans 42 = .ok (.l2i, 1) := by decide +kernel
theorem dX9_scans_43 : decode cX9_scans 43 = .ok (.istore 5, 2) := by decide +kernel
theorem dX9_scans_45 : decode cX9_scans 45 = .ok (.aload_n 0, 1) := by decide +kernel
theorem dX9_scans_46 : decode cX9_scans 46 = .ok (.getfield 7, 3) := by decide +kernel
theorem dX9_scans_49 : decode cX9_scans 49 = .ok (.iload 5, 2) := by decide +kernel
theorem dX9_scans_51 : decode cX9_scans 51 = .ok (.iconst 0, 1) := by decide +kernel
theorem dX9_scans_52 : decode cX9_scans 52 = .ok (.invokestatic 40, 3) := by decide +kernel
theorem dX9_scans_55 : decode cX9_scans 55 = .ok (.lload_n 1, 1) := by decide +kernel
theorem dX9_scans_56 : decode cX9_scans 56 = .ok (.lastore, 1) := by decide +kernel
theorem dX9_scans_57 : decode cX9_scans 57 = .ok (.aload_n 0, 1) := by decide +kernel
theorem dX9_scans_58 : decode cX9_scans 58 = .ok (.getfield 7, 3) := by decide +kernel
theorem dX9_scans_61 : decode cX9_scans 61 = .ok (.iload 5, 2) := by decide +kernel
theorem dX9_scans_63 : decode cX9_scans 63 = .ok (.iconst 1, 1) := by decide +kernel
theorem dX9_scans_64 : decode cX9_scans 64 = .ok (.invokestatic 40, 3) := by decide +kernel
theorem dX9_scans_67 : decode cX9_scans 67 = .ok (.lload_n 3, 1) := by decide +kernel
theorem dX9_scans_68 : decode cX9_scans 68 = .ok (.lastore, 1) := by decide +kernel
theorem dX9_scans_69 : decode cX9_scans 69 = .ok (.aload_n 0, 1) := by decide +kernel
theorem dX9_scans_70 : decode cX9_scans 70 = .ok (.getfield 7, 3) := by decide +kernel
theorem dX9_scans_73 : decode cX9_scans 73 = .ok (.iload 5, 2) := by decide +kernel
theorem dX9_scans_75 : decode cX9_scans 75 = .ok (.iconst 2, 1) := by decide +kernel
theorem dX9_scans_76 : decode cX9_scans 76 = .ok (.invokestatic 40, 3) := by decide +kernel
theorem dX9_scans_79 : decode cX9_scans 79 = .ok (.aload_n 0, 1) := by decide +kernel
theorem dX9_scans_80 : decode cX9_scans 80 = .ok (.getfield 7, 3) := by decide +kernel
theorem dX9_scans_83 : decode cX9_scans 83 = .ok (.bipush 6, 2) := by decide +kernel
theorem dX9_scans_85 : decode cX9_scans 85 = .ok (.lload_n 1, 1) := by decide +kernel
theorem dX9_scans_86 : decode cX9_scans 86 = .ok (.l2i, 1) := by decide +kernel
theorem dX9_scans_87 : decode cX9_scans 87 = .ok (.iadd, 1) := by decide +kernel
theorem dX9_scans_88 : decode cX9_scans 88 = .ok (.laload, 1) := by decide +kernel
theorem dX9_scans_89 : decode cX9_scans 89 = .ok (.lastore, 1) := by decide +kernel
theorem dX9_scans_90 : decode cX9_scans 90 = .ok (.aload_n 0, 1) := by decide +kernel
theorem dX9_scans_91 : decode cX9_scans 91 = .ok (.getfield 7, 3) := by decide +kernel
theorem dX9_scans_94 : decode cX9_scans 94 = .ok (.iload 5, 2) := by decide +kernel
theorem dX9_scans_96 : decode cX9_scans 96 = .ok (.iconst 3, 1) := by decide +kernel
theorem dX9_scans_97 : decode cX9_scans 97 = .ok (.invokestatic 40, 3) := by decide +kernel
theorem dX9_scans_100 : decode cX9_scans 100 = .ok (.lconst 0, 1) := by decide +kernel
theorem dX9_scans_101 : decode cX9_scans 101 = .ok (.lastore, 1) := by decide +kernel
theorem dX9_scans_102 : decode cX9_scans 102 = .ok (.aload_n 0, 1) := by decide +kernel
theorem dX9_scans_103 : decode cX9_scans 103 = .ok (.getfield 7, 3) := by decide +kernel
theorem dX9_scans_106 : decode cX9_scans 106 = .ok (.iload 5, 2) := by decide +kernel
theorem dX9_scans_108 : decode cX9_scans 108 = .ok (.iconst 4, 1) := by decide +kernel
theorem dX9_scans_109 : decode cX9_scans 109 = .ok (.invokestatic 40, 3) := by decide +kernel
theorem dX9_scans_112 : decode cX9_scans 112 = .ok (.lconst 0, 1) := by decide +kernel
theorem dX9_scans_113 : decode cX9_scans 113 = .ok (.lastore, 1) := by decide +kernel
theorem dX9_scans_114 : decode cX9_scans 114 = .ok (.aload_n 0, 1) := by decide +kernel
theorem dX9_scans_115 : decode cX9_scans 115 = .ok (.getfield 7, 3) := by decide +kernel
theorem dX9_scans_118 : decode cX9_scans 118 = .ok (.iconst 0, 1) := by decide +kernel
theorem dX9_scans_119 : decode cX9_scans 119 = .ok (.dup2, 1) := by decide +kernel
theorem dX9_scans_120 : decode cX9_scans 120 = .ok (.laload, 1) := by decide +kernel
theorem dX9_scans_121 : decode cX9_scans 121 = .ok (.lconst 1, 1) := by decide +kernel
theorem dX9_scans_122 : decode cX9_scans 122 = .ok (.ladd, 1) := by decide +kernel
theorem dX9_scans_123 : decode cX9_scans 123 = .ok (.lastore, 1) := by decide +kernel
theorem dX9_scans_124 : decode cX9_scans 124 = .ok (.iload 5, 2) := by decide +kernel
theorem dX9_scans_126 : decode cX9_scans 126 = .ok (.ireturn, 1) := by decide +kernel
theorem dX9_cleans_0 : decode cX9_cleans 0 = .ok (.lload_n 1, 1) := by decide +kernel
theorem dX9_cleans_1 : decode cX9_cleans 1 = .ok (.lconst 0, 1) := by decide +kernel
theorem dX9_cleans_2 : decode cX9_cleans 2 = .ok (.ldc2_w 48, 3) := by decide +kernel
theorem dX9_cleans_5 : decode cX9_cleans 5 = .ok (.invokestatic 32, 3) := by decide +kernel
theorem dX9_cleans_8 : decode cX9_cleans 8 = .ok (.ifCond .ne 5, 3) := by decide +kernel
theorem dX9_cleans_11 : decode cX9_cleans 11 = .ok (.iconst (-1), 1) := by decide +kernel
theorem dX9_cleans_12 : decode cX9_cleans 12 = .ok (.ireturn, 1) := by decide +kernel
theorem dX9_cleans_13 : decode cX9_cleans 13 = .ok (.aload_n 0, 1) := by decide +kernel
theorem dX9_cleans_14 : decode cX9_cleans 14 = .ok (.getfield 7, 3) := by decide +kernel
theorem dX9_cleans_17 : decode cX9_cleans 17 = .ok (.bipush 6, 2) := by decide +kernel
theorem dX9_cleans_19 : decode cX9_cleans 19 = .ok (.lload_n 1, 1) := by decide +kernel
theorem dX9_cleans_20 : decode cX9_cleans 20 = .ok (.l2i, 1) := by decide +kernel
theorem dX9_cleans_21 : decode cX9_cleans 21 = .ok (.iadd, 1) := by decide +kernel
theorem dX9_cleans_22 : decode cX9_cleans 22 = .ok (.dup2, 1) := by decide +kernel
theorem dX9_cleans_23 : decode cX9_cleans 23 = .ok (.laload, 1) := by decide +kernel
theorem dX9_cleans_24 : decode cX9_cleans 24 = .ok (.lconst 1, 1) := by decide +kernel
theorem dX9_cleans_25 : decode cX9_cleans 25 = .ok (.ladd, 1) := by decide +kernel
theorem dX9_cleans_26 : decode cX9_cleans 26 = .ok (.lastore, 1) := by decide +kernel
theorem dX9_cleans_27 : decode cX9_cleans 27 = .ok (.aload_n 0, 1) := by decide +kernel
theorem dX9_cleans_28 : decode cX9_cleans 28 = .ok (.lload_n 1, 1) := by decide +kernel
theorem dX9_cleans_29 : decode cX9_cleans 29 = .ok (.l2i, 1) := by decide +kernel
theorem dX9_cleans_30 : decode cX9_cleans 30 = .ok (.invokevirtual 135, 3) := by decide +kernel
theorem dX9_cleans_33 : decode cX9_cleans 33 = .ok (.ireturn, 1) := by decide +kernel
theorem dX9_publishes_0 : decode cX9_publishes 0 = .ok (.aload_n 0, 1) := by decide +kernel
theorem dX9_publishes_1 : decode cX9_publishes 1 = .ok (.getfield 7, 3) := by decide +kernel
theorem dX9_publishes_4 : decode cX9_publishes 4 = .ok (.iconst 0, 1) := by decide +kernel
theorem dX9_publishes_5 : decode cX9_publishes 5 = .ok (.laload, 1) := by decide +kernel
theorem dX9_publishes_6 : decode cX9_publishes 6 = .ok (.lconst 0, 1) := by decide +kernel
theorem dX9_publishes_7 : decode cX9_publishes 7 = .ok (.lcmp, 1) := by decide +kernel
theorem dX9_publishes_8 : decode cX9_publishes 8 = .ok (.ifCond .eq 19, 3) := by decide +kernel
theorem dX9_publishes_11 : decode cX9_publishes 11 = .ok (.aload_n 0, 1) := by decide +kernel
theorem dX9_publishes_12 : decode cX9_publishes 12 = .ok (.iconst 1, 1) := by decide +kernel
theorem dX9_publishes_13 : decode cX9_publishes 13 = .ok (.invokevirtual 138, 3) := by decide +kernel
theorem dX9_publishes_16 : decode cX9_publishes 16 = .ok (.i2l, 1) := by decide +kernel
theorem dX9_publishes_17 : decode cX9_publishes 17 = .ok (.aload_n 0, 1) := by decide +kernel
theorem dX9_publishes_18 : decode cX9_publishes 18 = .ok (.getfield 7, 3) := by decide +kernel
theorem dX9_publishes_21 : decode cX9_publishes 21 = .ok (.iconst 5, 1) := by decide +kernel
theorem dX9_publishes_22 : decode cX9_publishes 22 = .ok (.laload, 1) := by decide +kernel
theorem dX9_publishes_23 : decode cX9_publishes 23 = .ok (.lcmp, 1) := by decide +kernel
theorem dX9_publishes_24 : decode cX9_publishes 24 = .ok (.ifCond .le 6, 3) := by decide +kernel
theorem dX9_publishes_27 : decode cX9_publishes 27 = .ok (.bipush (-2), 2) := by decide +kernel
theorem dX9_publishes_29 : decode cX9_publishes 29 = .ok (.ireturn, 1) := by decide +kernel
theorem dX9_publishes_30 : decode cX9_publishes 30 = .ok (.aload_n 0, 1) := by decide +kernel
theorem dX9_publishes_31 : decode cX9_publishes 31 = .ok (.getfield 7, 3) := by decide +kernel
theorem dX9_publishes_34 : decode cX9_publishes 34 = .ok (.iconst 1, 1) := by decide +kernel
theorem dX9_publishes_35 : decode cX9_publishes 35 = .ok (.laload, 1) := by decide +kernel
theorem dX9_publishes_36 : decode cX9_publishes 36 = .ok (.ldc2_w 28, 3) := by decide +kernel
theorem dX9_publishes_39 : decode cX9_publishes 39 = .ok (.lcmp, 1) := by decide +kernel
theorem dX9_publishes_40 : decode cX9_publishes 40 = .ok (.ifCond .ne 6, 3) := by decide +kernel
theorem dX9_publishes_43 : decode cX9_publishes 43 = .ok (.bipush (-3), 2) := by decide +kernel
theorem dX9_publishes_45 : decode cX9_publishes 45 = .ok (.ireturn, 1) := by decide +kernel
theorem dX9_publishes_46 : decode cX9_publishes 46 = .ok (.aload_n 0, 1) := by decide +kernel
theorem dX9_publishes_47 : decode cX9_publishes 47 = .ok (.iconst 0, 1) := by decide +kernel
theorem dX9_publishes_48 : decode cX9_publishes 48 = .ok (.invokevirtual 138, 3) := by decide +kernel
theorem dX9_publishes_51 : decode cX9_publishes 51 = .ok (.istore_n 1, 1) := by decide +kernel
theorem dX9_publishes_52 : decode cX9_publishes 52 = .ok (.aload_n 0, 1) := by decide +kernel
theorem dX9_publishes_53 : decode cX9_publishes 53 = .ok (.getfield 7, 3) := by decide +kernel
theorem dX9_publishes_56 : decode cX9_publishes 56 = .ok (.iconst 1, 1) := by decide +kernel
theorem dX9_publishes_57 : decode cX9_publishes 57 = .ok (.laload, 1) := by decide +kernel
theorem dX9_publishes_58 : decode cX9_publishes 58 = .ok (.l2i, 1) := by decide +kernel
theorem dX9_publishes_59 : decode cX9_publishes 59 = .ok (.istore_n 2, 1) := by decide +kernel
theorem dX9_publishes_60 : decode cX9_publishes 60 = .ok (.aload_n 0, 1) := by decide +kernel
theorem dX9_publishes_61 : decode cX9_publishes 61 = .ok (.getfield 7, 3) := by decide +kernel
theorem dX9_publishes_64 : decode cX9_publishes 64 = .ok (.iload_n 2, 1) := by decide +kernel
theorem dX9_publishes_65 : decode cX9_publishes 65 = .ok (.iconst 0, 1) := by decide +kernel
theorem dX9_publishes_66 : decode cX9_publishes 66 = .ok (.invokestatic 104, 3) := by decide +kernel
theorem dX9_publishes_69 : decode cX9_publishes 69 = .ok (.aload_n 0, 1) := by decide +kernel
theorem dX9_publishes_70 : decode cX9_publishes 70 = .ok (.getfield 7, 3) := by decide +kernel
theorem dX9_publishes_73 : decode cX9_publishes 73 = .ok (.iconst 0, 1) := by decide +kernel
theorem dX9_publishes_74 : decode cX9_publishes 74 = .ok (.laload, 1) := by decide +kernel
theorem dX9_publishes_75 : decode cX9_publishes 75 = .ok (.lastore, 1) := by decide +kernel
theorem dX9_publishes_76 : decode cX9_publishes 76 = .ok (.iconst 0, 1) := by decide +kernel
theorem dX9_publishes_77 : decode cX9_publishes 77 = .ok (.istore_n 3, 1) := by decide +kernel
theorem dX9_publishes_78 : decode cX9_publishes 78 = .ok (.iload_n 3, 1) := by decide +kernel
theorem dX9_publishes_79 : decode cX9_publishes 79 = .ok (.i2l, 1) := by decide +kernel
theorem dX9_publishes_80 : decode cX9_publishes 80 = .ok (.aload_n 0, 1) := by decide +kernel
theorem dX9_publishes_81 : decode cX9_publishes 81 = .ok (.getfield 7, 3) := by decide +kernel
theorem dX9_publishes_84 : decode cX9_publishes 84 = .ok (.iconst 0, 1) := by decide +kernel
theorem dX9_publishes_85 : decode cX9_publishes 85 = .ok (.laload, 1) := by decide +kernel
theorem dX9_publishes_86 : decode cX9_publishes 86 = .ok (.lcmp, 1) := by decide +kernel
theorem dX9_publishes_87 : decode cX9_publishes 87 = .ok (.ifCond .ge 30, 3) := by decide +kernel
theorem dX9_publishes_90 : decode cX9_publishes 90 = .ok (.aload_n 0, 1) := by decide +kernel
theorem dX9_publishes_91 : decode cX9_publishes 91 = .ok (.getfield 7, 3) := by decide +kernel
theorem dX9_publishes_94 : decode cX9_publishes 94 = .ok (.iload_n 2, 1) := by decide +kernel
theorem dX9_publishes_95 : decode cX9_publishes 95 = .ok (.iconst 1, 1) := by decide +kernel
theorem dX9_publishes_96 : decode cX9_publishes 96 = .ok (.iload_n 3, 1) := by decide +kernel
theorem dX9_publishes_97 : decode cX9_publishes 97 = .ok (.iadd, 1) := by decide +kernel
theorem dX9_publishes_98 : decode cX9_publishes 98 = .ok (.invokestatic 104, 3) := by decide +kernel
theorem dX9_publishes_101 : decode cX9_publishes 101 = .ok (.aload_n 0, 1) := by decide +kernel
theorem dX9_publishes_102 : decode cX9_publishes 102 = .ok (.iload_n 3, 1) := by decide +kernel
theorem dX9_publishes_103 : decode cX9_publishes 103 = .ok (.aload_n 0, 1) := by decide +kernel
theorem dX9_publishes_104 : decode cX9_publishes 104 = .ok (.invokevirtual 107, 3) := by decide +kernel
theorem dX9_publishes_107 : decode cX9_publishes 107 = .ok (.invokevirtual 111, 3) := by decide +kernel
theorem dX9_publishes_110 : decode cX9_publishes 110 = .ok (.lastore, 1) := by decide +kernel
theorem dX9_publishes_111 : decode cX9_publishes 111 = .ok (.iinc 3 1, 3) := by decide +kernel
theorem dX9_publishes_114 : decode cX9_publishes 114 = .ok (.goto (-36), 3) := by decide +kernel
theorem dX9_publishes_117 : decode cX9_publishes 117 = .ok (.aload_n 0, 1) := by decide +kernel
theorem dX9_publishes_118 : decode cX9_publishes 118 = .ok (.getfield 7, 3) := by decide +kernel
theorem dX9_publishes_121 : decode cX9_publishes 121 = .ok (.iconst 1, 1) := by decide +kernel
theorem dX9_publishes_122 : decode cX9_publishes 122 = .ok (.dup2, 1) := by decide +kernel
theorem dX9_publishes_123 : decode cX9_publishes 123 = .ok (.laload, 1) := by decide +kernel
theorem dX9_publishes_124 : decode cX9_publishes 124 = .ok (.lconst 1, 1) := by decide +kernel
theorem dX9_publishes_125 : decode cX9_publishes 125 = .ok (.ladd, 1) := by decide +kernel
theorem dX9_publishes_126 : decode cX9_publishes 126 = .ok (.lastore, 1) := by decide +kernel
theorem dX9_publishes_127 : decode cX9_publishes 127 = .ok (.iload_n 1, 1) := by decide +kernel
theorem dX9_publishes_128 : decode cX9_publishes 128 = .ok (.ireturn, 1) := by decide +kernel
theorem dX9_draws_0 : decode cX9_draws 0 = .ok (.lload_n 1, 1) := by decide +kernel
theorem dX9_draws_1 : decode cX9_draws 1 = .ok (.lconst 0, 1) := by decide +kernel
theorem dX9_draws_2 : decode cX9_draws 2 = .ok (.ldc2_w 142, 3) := by decide +kernel
theorem dX9_draws_5 : decode cX9_draws 5 = .ok (.invokestatic 32, 3) := by decide +kernel
theorem dX9_draws_8 : decode cX9_draws 8 = .ok (.ifCond .eq 14, 3) := by decide +kernel
theorem dX9_draws_11 : decode cX9_draws 11 = .ok (.lload_n 3, 1) := by decide +kernel
theorem dX9_draws_12 : decode cX9_draws 12 = .ok (.lconst 1, 1) := by decide +kernel
theorem dX9_draws_13 : decode cX9_draws 13 = .ok (.ldc2_w 133, 3) := by decide +kernel
theorem dX9_draws_16 : decode cX9_draws 16 = .ok (.invokestatic 32, 3) := by decide +kernel
theorem dX9_draws_19 : decode cX9_draws 19 = .ok (.ifCond .ne 5, 3) := by decide +kernel
theorem dX9_draws_22 : decode cX9_draws 22 = .ok (.iconst (-1), 1) := by decide +kernel
theorem dX9_draws_23 : decode cX9_draws 23 = .ok (.ireturn, 1) := by decide +kernel
theorem dX9_draws_24 : decode cX9_draws 24 = .ok (.aload_n 0, 1) := by decide +kernel
theorem dX9_draws_25 : decode cX9_draws 25 = .ok (.invokevirtual 144, 3) := by decide +kernel
theorem dX9_draws_28 : decode cX9_draws 28 = .ok (.istore 5, 2) := by decide +kernel
theorem dX9_draws_30 : decode cX9_draws 30 = .ok (.iload 5, 2) := by decide +kernel
theorem dX9_draws_32 : decode cX9_draws 32 = .ok (.i2l, 1) := by decide +kernel
theorem dX9_draws_33 : decode cX9_draws 33 = .ok (.lload_n 3, 1) := by decide +kernel
theorem dX9_draws_34 : decode cX9_draws 34 = .ok (.lcmp, 1) := by decide +kernel
theorem dX9_draws_35 : decode cX9_draws 35 = .ok (.ifCond .ge 6, 3) := by decide +kernel
theorem dX9_draws_38 : decode cX9_draws 38 = .ok (.bipush (-2), 2) := by decide +kernel
theorem dX9_draws_40 : decode cX9_draws 40 = .ok (.ireturn, 1) := by decide +kernel
theorem dX9_draws_41 : decode cX9_draws 41 = .ok (.lload_n 1, 1) := by decide +kernel
theorem dX9_draws_42 : decode cX9_draws 42 = .ok (.lstore 6, 2) := by decide +kernel
theorem dX9_draws_44 : decode cX9_draws 44 = .ok (.iconst 0, 1) := by decide +kernel
theorem dX9_draws_45 : decode cX9_draws 45 = .ok (.istore 8, 2) := by decide +kernel
theorem dX9_draws_47 : decode cX9_draws 47 = .ok (.iload 8, 2) := by decide +kernel
theorem dX9_draws_49 : decode cX9_draws 49 = .ok (.i2l, 1) := by decide +kernel
theorem dX9_draws_50 : decode cX9_draws 50 = .ok (.lload_n 3, 1) := by decide +kernel
theorem dX9_draws_51 : decode cX9_draws 51 = .ok (.lcmp, 1) := by decide +kernel
theorem dX9_draws_52 : decode cX9_draws 52 = .ok (.ifCond .ge 87, 3) := by decide +kernel
theorem dX9_draws_55 : decode cX9_draws 55 = .ok (.ldc2_w 147, 3) := by decide +kernel
theorem dX9_draws_58 : decode cX9_draws 58 = .ok (.lload 6, 2) := by decide +kernel
theorem dX9_draws_60 : decode cX9_draws 60 = .ok (.lmul, 1) := by decide +kernel
theorem dX9_draws_61 : decode cX9_draws 61 = .ok (.ldc2_w 149, 3) := by decide +kernel
theorem dX9_draws_64 : decode cX9_draws 64 = .ok (.ladd, 1) := by decide +kernel
theorem dX9_draws_65 : decode cX9_draws 65 = .ok (.ldc2_w 151, 3) := by decide +kernel
theorem dX9_draws_68 : decode cX9_draws 68 = .ok (.lrem, 1) := by decide +kernel
theorem dX9_draws_69 : decode cX9_draws 69 = .ok (.lstore 6, 2) := by decide +kernel
theorem dX9_draws_71 : decode cX9_draws 71 = .ok (.lload 6, 2) := by decide +kernel
theorem dX9_draws_73 : decode cX9_draws 73 = .ok (.iload 5, 2) := by decide +kernel
theorem dX9_draws_75 : decode cX9_draws 75 = .ok (.i2l, 1) := by decide +kernel
theorem dX9_draws_76 : decode cX9_draws 76 = .ok (.lrem, 1) := by decide +kernel
theorem dX9_draws_77 : decode cX9_draws 77 = .ok (.l2i, 1) := by decide +kernel
theorem dX9_draws_78 : decode cX9_draws 78 = .ok (.istore 9, 2) := by decide +kernel
theorem dX9_draws_80 : decode cX9_draws 80 = .ok (.aload_n 0, 1) := by decide +kernel
theorem dX9_draws_81 : decode cX9_draws 81 = .ok (.getfield 7, 3) := by decide +kernel
theorem dX9_draws_84 : decode cX9_draws 84 = .ok (.aload_n 0, 1) := by decide +kernel
theorem dX9_draws_85 : decode cX9_draws 85 = .ok (.getfield 19, 3) := by decide +kernel
theorem dX9_draws_88 : decode cX9_draws 88 = .ok (.iload 9, 2) := by decide +kernel
theorem dX9_draws_90 : decode cX9_draws 90 = .ok (.iaload, 1) := by decide +kernel
theorem dX9_draws_91 : decode cX9_draws 91 = .ok (.iconst 3, 1) := by decide +kernel
theorem dX9_draws_92 : decode cX9_draws 92 = .ok (.invokestatic 40, 3) := by decide +kernel
theorem dX9_draws_95 : decode cX9_draws 95 = .ok (.lconst 1, 1) := by decide +kernel
theorem dX9_draws_96 : decode cX9_draws 96 = .ok (.lastore, 1) := by decide +kernel
theorem dX9_draws_97 : decode cX9_draws 97 = .ok (.iinc 5 (-1), 3) := by decide +kernel
theorem dX9_draws_100 : decode cX9_draws 100 = .ok (.iload 9, 2) := by decide +kernel
theorem dX9_draws_102 : decode cX9_draws 102 = .ok (.istore 10, 2) := by decide +kernel
theorem dX9_draws_104 : decode cX9_draws 104 = .ok (.iload 10, 2) := by decide +kernel
theorem dX9_draws_106 : decode cX9_draws 106 = .ok (.iload 5, 2) := by decide +kernel
theorem dX9_draws_108 : decode cX9_draws 108 = .ok (.if_icmp .ge 25, 3) := by decide +kernel
theorem dX9_draws_111 : decode cX9_draws 111 = .ok (.aload_n 0, 1) := by decide +kernel
theorem dX9_draws_112 : decode cX9_draws 112 = .ok (.getfield 19, 3) := by decide +kernel
theorem dX9_draws_115 : decode cX9_draws 115 = .ok (.iload 10, 2) := by decide +kernel
theorem dX9_draws_117 : decode cX9_draws 117 = .ok (.aload_n 0, 1) := by decide +kernel
theorem dX9_draws_118 : decode cX9_draws 118 = .ok (.getfield 19, 3) := by decide +kernel
theorem dX9_draws_121 : decode cX9_draws 121 = .ok (.iload 10, 2) := by decide +kernel
theorem dX9_draws_123 : decode cX9_draws 123 = .ok (.iconst 1, 1) := by decide +kernel
theorem dX9_draws_124 : decode cX9_draws 124 = .ok (.iadd, 1) := by decide +kernel
theorem dX9_draws_125 : decode cX9_draws 125 = .ok (.iaload, 1) := by decide +kernel
theorem dX9_draws_126 : decode cX9_draws 126 = .ok (.iastore, 1) := by decide +kernel
theorem dX9_draws_127 : decode cX9_draws 127 = .ok (.iinc 10 1, 3) := by decide +kernel
theorem dX9_draws_130 : decode cX9_draws 130 = .ok (.goto (-26), 3) := by decide +kernel
theorem dX9_draws_133 : decode cX9_draws 133 = .ok (.iinc 8 1, 3) := by decide +kernel
theorem dX9_draws_136 : decode cX9_draws 136 = .ok (.goto (-89), 3) := by decide +kernel
theorem dX9_draws_139 : decode cX9_draws 139 = .ok (.aload_n 0, 1) := by decide +kernel
theorem dX9_draws_140 : decode cX9_draws 140 = .ok (.iconst 1, 1) := by decide +kernel
theorem dX9_draws_141 : decode cX9_draws 141 = .ok (.invokevirtual 153, 3) := by decide +kernel
theorem dX9_draws_144 : decode cX9_draws 144 = .ok (.ireturn, 1) := by decide +kernel
theorem dX9_looks_0 : decode cX9_looks 0 = .ok (.lload_n 1, 1) := by decide +kernel
theorem dX9_looks_1 : decode cX9_looks 1 = .ok (.lconst 0, 1) := by decide +kernel
theorem dX9_looks_2 : decode cX9_looks 2 = .ok (.aload_n 0, 1) := by decide +kernel
theorem dX9_looks_3 : decode cX9_looks 3 = .ok (.getfield 7, 3) := by decide +kernel
theorem dX9_looks_6 : decode cX9_looks 6 = .ok (.iconst 0, 1) := by decide +kernel
theorem dX9_looks_7 : decode cX9_looks 7 = .ok (.laload, 1) := by decide +kernel
theorem dX9_looks_8 : decode cX9_looks 8 = .ok (.lconst 1, 1) := by decide +kernel
theorem dX9_looks_9 : decode cX9_looks 9 = .ok (.lsub, 1) := by decide +kernel
theorem dX9_looks_10 : decode cX9_looks 10 = .ok (.invokestatic 32, 3) := by decide +kernel
theorem dX9_looks_13 : decode cX9_looks 13 = .ok (.ifCond .eq 10, 3) := by decide +kernel
theorem dX9_looks_16 : decode cX9_looks 16 = .ok (.lload_n 3, 1) := by decide +kernel
theorem dX9_looks_17 : decode cX9_looks 17 = .ok (.invokestatic 129, 3) := by decide +kernel
theorem dX9_looks_20 : decode cX9_looks 20 = .ok (.ifCond .ne 5, 3) := by decide +kernel
theorem dX9_looks_23 : decode cX9_looks 23 = .ok (.iconst (-1), 1) := by decide +kernel
theorem dX9_looks_24 : decode cX9_looks 24 = .ok (.ireturn, 1) := by decide +kernel
theorem dX9_looks_25 : decode cX9_looks 25 = .ok (.lload_n 1, 1) := by decide +kernel
theorem dX9_looks_26 : decode cX9_looks 26 = .ok (.l2i, 1) := by decide +kernel
theorem dX9_looks_27 : decode cX9_looks 27 = .ok (.istore 5, 2) := by decide +kernel
theorem dX9_looks_29 : decode cX9_looks 29 = .ok (.aload_n 0, 1) := by decide +kernel
theorem dX9_looks_30 : decode cX9_looks 30 = .ok (.getfield 7, 3) := by decide +kernel
theorem dX9_looks_33 : decode cX9_looks 33 = .ok (.iload 5, 2) := by decide +kernel
theorem dX9_looks_35 : decode cX9_looks 35 = .ok (.iconst 3, 1) := by decide +kernel
theorem dX9_looks_36 : decode cX9_looks 36 = .ok (.invokestatic 40, 3) := by decide +kernel
theorem dX9_looks_39 : decode cX9_looks 39 = .ok (.laload, 1) := by decide +kernel
theorem dX9_looks_40 : decode cX9_looks 40 = .ok (.lconst 1, 1) := by decide +kernel
theorem dX9_looks_41 : decode cX9_looks 41 = .ok (.lcmp, 1) := by decide +kernel
theorem dX9_looks_42 : decode cX9_looks 42 = .ok (.ifCond .eq 6, 3) := by decide +kernel
theorem dX9_looks_45 : decode cX9_looks 45 = .ok (.bipush (-2), 2) := by decide +kernel
theorem dX9_looks_47 : decode cX9_looks 47 = .ok (.ireturn, 1) := by decide +kernel
theorem dX9_looks_48 : decode cX9_looks 48 = .ok (.aload_n 0, 1) := by decide +kernel
theorem dX9_looks_49 : decode cX9_looks 49 = .ok (.iload 5, 2) := by decide +kernel
theorem dX9_looks_51 : decode cX9_looks 51 = .ok (.aload_n 0, 1) := by decide +kernel
theorem dX9_looks_52 : decode cX9_looks 52 = .ok (.invokevirtual 107, 3) := by decide +kernel
theorem dX9_looks_55 : decode cX9_looks 55 = .ok (.invokevirtual 111, 3) := by decide +kernel
theorem dX9_looks_58 : decode cX9_looks 58 = .ok (.lstore 6, 2) := by decide +kernel
theorem dX9_looks_60 : decode cX9_looks 60 = .ok (.aload_n 0, 1) := by decide +kernel
theorem dX9_looks_61 : decode cX9_looks 61 = .ok (.getfield 7, 3) := by decide +kernel
theorem dX9_looks_64 : decode cX9_looks 64 = .ok (.iload 5, 2) := by decide +kernel
theorem dX9_looks_66 : decode cX9_looks 66 = .ok (.iconst 3, 1) := by decide +kernel
theorem dX9_looks_67 : decode cX9_looks 67 = .ok (.invokestatic 40, 3) := by decide +kernel
theorem dX9_looks_70 : decode cX9_looks 70 = .ok (.ldc2_w 48, 3) := by decide +kernel
theorem dX9_looks_73 : decode cX9_looks 73 = .ok (.lastore, 1) := by decide +kernel
theorem dX9_looks_74 : decode cX9_looks 74 = .ok (.aload_n 0, 1) := by decide +kernel
theorem dX9_looks_75 : decode cX9_looks 75 = .ok (.getfield 7, 3) := by decide +kernel
theorem dX9_looks_78 : decode cX9_looks 78 = .ok (.iload 5, 2) := by decide +kernel
theorem dX9_looks_80 : decode cX9_looks 80 = .ok (.iconst 4, 1) := by decide +kernel
theorem dX9_looks_81 : decode cX9_looks 81 = .ok (.invokestatic 40, 3) := by decide +kernel
theorem dX9_looks_84 : decode cX9_looks 84 = .ok (.lload_n 3, 1) := by decide +kernel
theorem dX9_looks_85 : decode cX9_looks 85 = .ok (.lastore, 1) := by decide +kernel
theorem dX9_looks_86 : decode cX9_looks 86 = .ok (.lload 6, 2) := by decide +kernel
theorem dX9_looks_88 : decode cX9_looks 88 = .ok (.aload_n 0, 1) := by decide +kernel
theorem dX9_looks_89 : decode cX9_looks 89 = .ok (.iload 5, 2) := by decide +kernel
theorem dX9_looks_91 : decode cX9_looks 91 = .ok (.aload_n 0, 1) := by decide +kernel
theorem dX9_looks_92 : decode cX9_looks 92 = .ok (.invokevirtual 107, 3) := by decide +kernel
theorem dX9_looks_95 : decode cX9_looks 95 = .ok (.invokevirtual 111, 3) := by decide +kernel
theorem dX9_looks_98 : decode cX9_looks 98 = .ok (.invokestatic 115, 3) := by decide +kernel
theorem dX9_looks_101 : decode cX9_looks 101 = .ok (.ireturn, 1) := by decide +kernel
theorem dX9_scan_0 : decode cX9_scan 0 = .ok (.aload_n 0, 1) := by decide +kernel
theorem dX9_scan_1 : decode cX9_scan 1 = .ok (.invokevirtual 156, 3) := by decide +kernel
theorem dX9_scan_4 : decode cX9_scan 4 = .ok (.aload_n 0, 1) := by decide +kernel
theorem dX9_scan_5 : decode cX9_scan 5 = .ok (.aload_n 0, 1) := by decide +kernel
theorem dX9_scan_6 : decode cX9_scan 6 = .ok (.iload_n 1, 1) := by decide +kernel
theorem dX9_scan_7 : decode cX9_scan 7 = .ok (.i2l, 1) := by decide +kernel
theorem dX9_scan_8 : decode cX9_scan 8 = .ok (.lload_n 2, 1) := by decide +kernel
theorem dX9_scan_9 : decode cX9_scan 9 = .ok (.invokevirtual 159, 3) := by decide +kernel
theorem dX9_scan_12 : decode cX9_scan 12 = .ok (.invokevirtual 162, 3) := by decide +kernel
theorem dX9_scan_15 : decode cX9_scan 15 = .ok (.ireturn, 1) := by decide +kernel
theorem dX9_clean_0 : decode cX9_clean 0 = .ok (.aload_n 0, 1) := by decide +kernel
theorem dX9_clean_1 : decode cX9_clean 1 = .ok (.invokevirtual 156, 3) := by decide +kernel
theorem dX9_clean_4 : decode cX9_clean 4 = .ok (.aload_n 0, 1) := by decide +kernel
theorem dX9_clean_5 : decode cX9_clean 5 = .ok (.aload_n 0, 1) := by decide +kernel
theorem dX9_clean_6 : decode cX9_clean 6 = .ok (.iload_n 1, 1) := by decide +kernel
theorem dX9_clean_7 : decode cX9_clean 7 = .ok (.i2l, 1) := by decide +kernel
theorem dX9_clean_8 : decode cX9_clean 8 = .ok (.invokevirtual 165, 3) := by decide +kernel
theorem dX9_clean_11 : decode cX9_clean 11 = .ok (.invokevirtual 162, 3) := by decide +kernel
theorem dX9_clean_14 : decode cX9_clean 14 = .ok (.ireturn, 1) := by decide +kernel
theorem dX9_isSetting_0 : decode cX9_isSetting 0 = .ok (.iload_n 0, 1) := by decide +kernel
theorem dX9_isSetting_1 : decode cX9_isSetting 1 = .ok (.tableswitch 73 0 3 #[31, 43, 53, 63], 31) := by decide +kernel
theorem dX9_isSetting_32 : decode cX9_isSetting 32 = .ok (.iload_n 1, 1) := by decide +kernel
theorem dX9_isSetting_33 : decode cX9_isSetting 33 = .ok (.i2l, 1) := by decide +kernel
theorem dX9_isSetting_34 : decode cX9_isSetting 34 = .ok (.ldc2_w 48, 3) := by decide +kernel
theorem dX9_isSetting_37 : decode cX9_isSetting 37 = .ok (.ldc2_w 169, 3) := by decide +kernel
theorem dX9_isSetting_40 : decode cX9_isSetting 40 = .ok (.invokestatic 32, 3) := by decide +kernel
theorem dX9_isSetting_43 : decode cX9_isSetting 43 = .ok (.ireturn, 1) := by decide +kernel
theorem dX9_isSetting_44 : decode cX9_isSetting 44 = .ok (.iload_n 1, 1) := by decide +kernel
theorem dX9_isSetting_45 : decode cX9_isSetting 45 = .ok (.i2l, 1) := by decide +kernel
theorem dX9_isSetting_46 : decode cX9_isSetting 46 = .ok (.lconst 1, 1) := by decide +kernel
theorem dX9_isSetting_47 : decode cX9_isSetting 47 = .ok (.ldc2_w 169, 3) := by decide +kernel
theorem dX9_isSetting_50 : decode cX9_isSetting 50 = .ok (.invokestatic 32, 3) := by decide +kernel
theorem dX9_isSetting_53 : decode cX9_isSetting 53 = .ok (.ireturn, 1) := by decide +kernel
theorem dX9_isSetting_54 : decode cX9_isSetting 54 = .ok (.iload_n 1, 1) := by decide +kernel
theorem dX9_isSetting_55 : decode cX9_isSetting 55 = .ok (.i2l, 1) := by decide +kernel
theorem dX9_isSetting_56 : decode cX9_isSetting 56 = .ok (.lconst 1, 1) := by decide +kernel
theorem dX9_isSetting_57 : decode cX9_isSetting 57 = .ok (.ldc2_w 169, 3) := by decide +kernel
theorem dX9_isSetting_60 : decode cX9_isSetting 60 = .ok (.invokestatic 32, 3) := by decide +kernel
theorem dX9_isSetting_63 : decode cX9_isSetting 63 = .ok (.ireturn, 1) := by decide +kernel
theorem dX9_isSetting_64 : decode cX9_isSetting 64 = .ok (.iload_n 1, 1) := by decide +kernel
theorem dX9_isSetting_65 : decode cX9_isSetting 65 = .ok (.i2l, 1) := by decide +kernel
theorem dX9_isSetting_66 : decode cX9_isSetting 66 = .ok (.lconst 0, 1) := by decide +kernel
theorem dX9_isSetting_67 : decode cX9_isSetting 67 = .ok (.ldc2_w 171, 3) := by decide +kernel
theorem dX9_isSetting_70 : decode cX9_isSetting 70 = .ok (.invokestatic 32, 3) := by decide +kernel
theorem dX9_isSetting_73 : decode cX9_isSetting 73 = .ok (.ireturn, 1) := by decide +kernel
theorem dX9_isSetting_74 : decode cX9_isSetting 74 = .ok (.iconst 0, 1) := by decide +kernel
theorem dX9_isSetting_75 : decode cX9_isSetting 75 = .ok (.ireturn, 1) := by decide +kernel
theorem dX9_set_0 : decode cX9_set 0 = .ok (.iload_n 1, 1) := by decide +kernel
theorem dX9_set_1 : decode cX9_set 1 = .ok (.iload_n 2, 1) := by decide +kernel
theorem dX9_set_2 : decode cX9_set 2 = .ok (.invokestatic 173, 3) := by decide +kernel
theorem dX9_set_5 : decode cX9_set 5 = .ok (.ifCond .ne 5, 3) := by decide +kernel
theorem dX9_set_8 : decode cX9_set 8 = .ok (.iconst (-1), 1) := by decide +kernel
theorem dX9_set_9 : decode cX9_set 9 = .ok (.ireturn, 1) := by decide +kernel
theorem dX9_set_10 : decode cX9_set 10 = .ok (.aload_n 0, 1) := by decide +kernel
theorem dX9_set_11 : decode cX9_set 11 = .ok (.invokevirtual 156, 3) := by decide +kernel
theorem dX9_set_14 : decode cX9_set 14 = .ok (.aload_n 0, 1) := by decide +kernel
theorem dX9_set_15 : decode cX9_set 15 = .ok (.getfield 7, 3) := by decide +kernel
theorem dX9_set_18 : decode cX9_set 18 = .ok (.iconst 2, 1) := by decide +kernel
theorem dX9_set_19 : decode cX9_set 19 = .ok (.iload_n 1, 1) := by decide +kernel
theorem dX9_set_20 : decode cX9_set 20 = .ok (.iadd, 1) := by decide +kernel
theorem dX9_set_21 : decode cX9_set 21 = .ok (.laload, 1) := by decide +kernel
theorem dX9_set_22 : decode cX9_set 22 = .ok (.l2i, 1) := by decide +kernel
theorem dX9_set_23 : decode cX9_set 23 = .ok (.istore_n 3, 1) := by decide +kernel
theorem dX9_set_24 : decode cX9_set 24 = .ok (.aload_n 0, 1) := by decide +kernel
theorem dX9_set_25 : decode cX9_set 25 = .ok (.getfield 7, 3) := by decide +kernel
theorem dX9_set_28 : decode cX9_set 28 = .ok (.iconst 2, 1) := by decide +kernel
theorem dX9_set_29 : decode cX9_set 29 = .ok (.iload_n 1, 1) := by decide +kernel
theorem dX9_set_30 : decode cX9_set 30 = .ok (.iadd, 1) := by decide +kernel
theorem dX9_set_31 : decode cX9_set 31 = .ok (.iload_n 2, 1) := by decide +kernel
theorem dX9_set_32 : decode cX9_set 32 = .ok (.i2l, 1) := by decide +kernel
theorem dX9_set_33 : decode cX9_set 33 = .ok (.lastore, 1) := by decide +kernel
theorem dX9_set_34 : decode cX9_set 34 = .ok (.aload_n 0, 1) := by decide +kernel
theorem dX9_set_35 : decode cX9_set 35 = .ok (.iload_n 3, 1) := by decide +kernel
theorem dX9_set_36 : decode cX9_set 36 = .ok (.invokevirtual 162, 3) := by decide +kernel
theorem dX9_set_39 : decode cX9_set 39 = .ok (.ireturn, 1) := by decide +kernel
theorem dX9_publish_0 : decode cX9_publish 0 = .ok (.aload_n 0, 1) := by decide +kernel
theorem dX9_publish_1 : decode cX9_publish 1 = .ok (.invokevirtual 156, 3) := by decide +kernel
theorem dX9_publish_4 : decode cX9_publish 4 = .ok (.aload_n 0, 1) := by decide +kernel
theorem dX9_publish_5 : decode cX9_publish 5 = .ok (.aload_n 0, 1) := by decide +kernel
theorem dX9_publish_6 : decode cX9_publish 6 = .ok (.invokevirtual 177, 3) := by decide +kernel
theorem dX9_publish_9 : decode cX9_publish 9 = .ok (.invokevirtual 162, 3) := by decide +kernel
theorem dX9_publish_12 : decode cX9_publish 12 = .ok (.ireturn, 1) := by decide +kernel
theorem dX9_draw_0 : decode cX9_draw 0 = .ok (.aload_n 0, 1) := by decide +kernel
theorem dX9_draw_1 : decode cX9_draw 1 = .ok (.invokevirtual 156, 3) := by decide +kernel
theorem dX9_draw_4 : decode cX9_draw 4 = .ok (.aload_n 0, 1) := by decide +kernel
theorem dX9_draw_5 : decode cX9_draw 5 = .ok (.aload_n 0, 1) := by decide +kernel
theorem dX9_draw_6 : decode cX9_draw 6 = .ok (.iload_n 1, 1) := by decide +kernel
theorem dX9_draw_7 : decode cX9_draw 7 = .ok (.i2l, 1) := by decide +kernel
theorem dX9_draw_8 : decode cX9_draw 8 = .ok (.iload_n 2, 1) := by decide +kernel
theorem dX9_draw_9 : decode cX9_draw 9 = .ok (.i2l, 1) := by decide +kernel
theorem dX9_draw_10 : decode cX9_draw 10 = .ok (.invokevirtual 180, 3) := by decide +kernel
theorem dX9_draw_13 : decode cX9_draw 13 = .ok (.invokevirtual 162, 3) := by decide +kernel
theorem dX9_draw_16 : decode cX9_draw 16 = .ok (.ireturn, 1) := by decide +kernel
theorem dX9_look_0 : decode cX9_look 0 = .ok (.aload_n 0, 1) := by decide +kernel
theorem dX9_look_1 : decode cX9_look 1 = .ok (.invokevirtual 156, 3) := by decide +kernel
theorem dX9_look_4 : decode cX9_look 4 = .ok (.aload_n 0, 1) := by decide +kernel
theorem dX9_look_5 : decode cX9_look 5 = .ok (.aload_n 0, 1) := by decide +kernel
theorem dX9_look_6 : decode cX9_look 6 = .ok (.iload_n 1, 1) := by decide +kernel
theorem dX9_look_7 : decode cX9_look 7 = .ok (.i2l, 1) := by decide +kernel
theorem dX9_look_8 : decode cX9_look 8 = .ok (.lload_n 2, 1) := by decide +kernel
theorem dX9_look_9 : decode cX9_look 9 = .ok (.invokevirtual 183, 3) := by decide +kernel
theorem dX9_look_12 : decode cX9_look 12 = .ok (.invokevirtual 162, 3) := by decide +kernel
theorem dX9_look_15 : decode cX9_look 15 = .ok (.ireturn, 1) := by decide +kernel
theorem dX9_slotAt_0 : decode cX9_slotAt 0 = .ok (.sipush 455, 3) := by decide +kernel
theorem dX9_slotAt_3 : decode cX9_slotAt 3 = .ok (.sipush 456, 3) := by decide +kernel
theorem dX9_slotAt_6 : decode cX9_slotAt 6 = .ok (.iload_n 0, 1) := by decide +kernel
theorem dX9_slotAt_7 : decode cX9_slotAt 7 = .ok (.imul, 1) := by decide +kernel
theorem dX9_slotAt_8 : decode cX9_slotAt 8 = .ok (.iadd, 1) := by decide +kernel
theorem dX9_slotAt_9 : decode cX9_slotAt 9 = .ok (.ireturn, 1) := by decide +kernel
theorem dX9_take_0 : decode cX9_take 0 = .ok (.iload_n 1, 1) := by decide +kernel
theorem dX9_take_1 : decode cX9_take 1 = .ok (.i2l, 1) := by decide +kernel
theorem dX9_take_2 : decode cX9_take 2 = .ok (.lconst 0, 1) := by decide +kernel
theorem dX9_take_3 : decode cX9_take 3 = .ok (.lconst 1, 1) := by decide +kernel
theorem dX9_take_4 : decode cX9_take 4 = .ok (.invokestatic 32, 3) := by decide +kernel
theorem dX9_take_7 : decode cX9_take 7 = .ok (.ifCond .ne 5, 3) := by decide +kernel
theorem dX9_take_10 : decode cX9_take 10 = .ok (.iconst (-1), 1) := by decide +kernel
theorem dX9_take_11 : decode cX9_take 11 = .ok (.ireturn, 1) := by decide +kernel
theorem dX9_take_12 : decode cX9_take 12 = .ok (.aload_n 0, 1) := by decide +kernel
theorem dX9_take_13 : decode cX9_take 13 = .ok (.invokevirtual 156, 3) := by decide +kernel
theorem dX9_take_16 : decode cX9_take 16 = .ok (.aload_n 0, 1) := by decide +kernel
theorem dX9_take_17 : decode cX9_take 17 = .ok (.getfield 7, 3) := by decide +kernel
theorem dX9_take_20 : decode cX9_take 20 = .ok (.iload_n 1, 1) := by decide +kernel
theorem dX9_take_21 : decode cX9_take 21 = .ok (.invokestatic 186, 3) := by decide +kernel
theorem dX9_take_24 : decode cX9_take 24 = .ok (.lconst 1, 1) := by decide +kernel
theorem dX9_take_25 : decode cX9_take 25 = .ok (.lastore, 1) := by decide +kernel
theorem dX9_take_26 : decode cX9_take 26 = .ok (.iconst 0, 1) := by decide +kernel
theorem dX9_take_27 : decode cX9_take 27 = .ok (.istore_n 2, 1) := by decide +kernel
theorem dX9_take_28 : decode cX9_take 28 = .ok (.iload_n 2, 1) := by decide +kernel
theorem dX9_take_29 : decode cX9_take 29 = .ok (.sipush 455, 3) := by decide +kernel
theorem dX9_take_32 : decode cX9_take 32 = .ok (.if_icmp .ge 28, 3) := by decide +kernel
theorem dX9_take_35 : decode cX9_take 35 = .ok (.aload_n 0, 1) := by decide +kernel
theorem dX9_take_36 : decode cX9_take 36 = .ok (.getfield 7, 3) := by decide +kernel
theorem dX9_take_39 : decode cX9_take 39 = .ok (.iload_n 1, 1) := by decide +kernel
theorem dX9_take_40 : decode cX9_take 40 = .ok (.invokestatic 186, 3) := by decide +kernel
theorem dX9_take_43 : decode cX9_take 43 = .ok (.iconst 1, 1) := by decide +kernel
theorem dX9_take_44 : decode cX9_take 44 = .ok (.iadd, 1) := by decide +kernel
theorem dX9_take_45 : decode cX9_take 45 = .ok (.iload_n 2, 1) := by decide +kernel
theorem dX9_take_46 : decode cX9_take 46 = .ok (.iadd, 1) := by decide +kernel
theorem dX9_take_47 : decode cX9_take 47 = .ok (.aload_n 0, 1) := by decide +kernel
theorem dX9_take_48 : decode cX9_take 48 = .ok (.getfield 7, 3) := by decide +kernel
theorem dX9_take_51 : decode cX9_take 51 = .ok (.iload_n 2, 1) := by decide +kernel
theorem dX9_take_52 : decode cX9_take 52 = .ok (.laload, 1) := by decide +kernel
theorem dX9_take_53 : decode cX9_take 53 = .ok (.lastore, 1) := by decide +kernel
theorem dX9_take_54 : decode cX9_take 54 = .ok (.iinc 2 1, 3) := by decide +kernel
theorem dX9_take_57 : decode cX9_take 57 = .ok (.goto (-29), 3) := by decide +kernel
theorem dX9_take_60 : decode cX9_take 60 = .ok (.aload_n 0, 1) := by decide +kernel
theorem dX9_take_61 : decode cX9_take 61 = .ok (.aload_n 0, 1) := by decide +kernel
theorem dX9_take_62 : decode cX9_take 62 = .ok (.getfield 7, 3) := by decide +kernel
theorem dX9_take_65 : decode cX9_take 65 = .ok (.iconst 0, 1) := by decide +kernel
theorem dX9_take_66 : decode cX9_take 66 = .ok (.laload, 1) := by decide +kernel
theorem dX9_take_67 : decode cX9_take 67 = .ok (.l2i, 1) := by decide +kernel
theorem dX9_take_68 : decode cX9_take 68 = .ok (.invokevirtual 162, 3) := by decide +kernel
theorem dX9_take_71 : decode cX9_take 71 = .ok (.ireturn, 1) := by decide +kernel
theorem dX9_restore_0 : decode cX9_restore 0 = .ok (.iload_n 1, 1) := by decide +kernel
theorem dX9_restore_1 : decode cX9_restore 1 = .ok (.i2l, 1) := by decide +kernel
theorem dX9_restore_2 : decode cX9_restore 2 = .ok (.lconst 0, 1) := by decide +kernel
theorem dX9_restore_3 : decode cX9_restore 3 = .ok (.lconst 1, 1) := by decide +kernel
theorem dX9_restore_4 : decode cX9_restore 4 = .ok (.invokestatic 32, 3) := by decide +kernel
theorem dX9_restore_7 : decode cX9_restore 7 = .ok (.ifCond .ne 5, 3) := by decide +kernel
theorem dX9_restore_10 : decode cX9_restore 10 = .ok (.iconst (-1), 1) := by decide +kernel
theorem dX9_restore_11 : decode cX9_restore 11 = .ok (.ireturn, 1) := by decide +kernel
theorem dX9_restore_12 : decode cX9_restore 12 = .ok (.aload_n 0, 1) := by decide +kernel
theorem dX9_restore_13 : decode cX9_restore 13 = .ok (.getfield 7, 3) := by decide +kernel
theorem dX9_restore_16 : decode cX9_restore 16 = .ok (.iload_n 1, 1) := by decide +kernel
theorem dX9_restore_17 : decode cX9_restore 17 = .ok (.invokestatic 186, 3) := by decide +kernel
theorem dX9_restore_20 : decode cX9_restore 20 = .ok (.laload, 1) := by decide +kernel
theorem dX9_restore_21 : decode cX9_restore 21 = .ok (.lconst 0, 1) := by decide +kernel
theorem dX9_restore_22 : decode cX9_restore 22 = .ok (.lcmp, 1) := by decide +kernel
theorem dX9_restore_23 : decode cX9_restore 23 = .ok (.ifCond .ne 6, 3) := by decide +kernel
theorem dX9_restore_26 : decode cX9_restore 26 = .ok (.bipush (-2), 2) := by decide +kernel
theorem dX9_restore_28 : decode cX9_restore 28 = .ok (.ireturn, 1) := by decide +kernel
theorem dX9_restore_29 : decode cX9_restore 29 = .ok (.aload_n 0, 1) := by decide +kernel
theorem dX9_restore_30 : decode cX9_restore 30 = .ok (.invokevirtual 156, 3) := by decide +kernel
theorem dX9_restore_33 : decode cX9_restore 33 = .ok (.iconst 0, 1) := by decide +kernel
theorem dX9_restore_34 : decode cX9_restore 34 = .ok (.istore_n 2, 1) := by decide +kernel
theorem dX9_restore_35 : decode cX9_restore 35 = .ok (.iload_n 2, 1) := by decide +kernel
theorem dX9_restore_36 : decode cX9_restore 36 = .ok (.sipush 455, 3) := by decide +kernel
theorem dX9_restore_39 : decode cX9_restore 39 = .ok (.if_icmp .ge 28, 3) := by decide +kernel
theorem dX9_restore_42 : decode cX9_restore 42 = .ok (.aload_n 0, 1) := by decide +kernel
theorem dX9_restore_43 : decode cX9_restore 43 = .ok (.getfield 7, 3) := by decide +kernel
theorem dX9_restore_46 : decode cX9_restore 46 = .ok (.iload_n 2, 1) := by decide +kernel
theorem dX9_restore_47 : decode cX9_restore 47 = .ok (.aload_n 0, 1) := by decide +kernel
theorem dX9_restore_48 : decode cX9_restore 48 = .ok (.getfield 7, 3) := by decide +kernel
theorem dX9_restore_51 : decode cX9_restore 51 = .ok (.iload_n 1, 1) := by decide +kernel
theorem dX9_restore_52 : decode cX9_restore 52 = .ok (.invokestatic 186, 3) := by decide +kernel
theorem dX9_restore_55 : decode cX9_restore 55 = .ok (.iconst 1, 1) := by decide +kernel
theorem dX9_restore_56 : decode cX9_restore 56 = .ok (.iadd, 1) := by decide +kernel
theorem dX9_restore_57 : decode cX9_restore 57 = .ok (.iload_n 2, 1) := by decide +kernel
theorem dX9_restore_58 : decode cX9_restore 58 = .ok (.iadd, 1) := by decide +kernel
theorem dX9_restore_59 : decode cX9_restore 59 = .ok (.laload, 1) := by decide +kernel
theorem dX9_restore_60 : decode cX9_restore 60 = .ok (.lastore, 1) := by decide +kernel
theorem dX9_restore_61 : decode cX9_restore 61 = .ok (.iinc 2 1, 3) := by decide +kernel
theorem dX9_restore_64 : decode cX9_restore 64 = .ok (.goto (-29), 3) := by decide +kernel
theorem dX9_restore_67 : decode cX9_restore 67 = .ok (.aload_n 0, 1) := by decide +kernel
theorem dX9_restore_68 : decode cX9_restore 68 = .ok (.aload_n 0, 1) := by decide +kernel
theorem dX9_restore_69 : decode cX9_restore 69 = .ok (.getfield 7, 3) := by decide +kernel
theorem dX9_restore_72 : decode cX9_restore 72 = .ok (.iconst 0, 1) := by decide +kernel
theorem dX9_restore_73 : decode cX9_restore 73 = .ok (.laload, 1) := by decide +kernel
theorem dX9_restore_74 : decode cX9_restore 74 = .ok (.l2i, 1) := by decide +kernel
theorem dX9_restore_75 : decode cX9_restore 75 = .ok (.invokevirtual 162, 3) := by decide +kernel
theorem dX9_restore_78 : decode cX9_restore 78 = .ok (.ireturn, 1) := by decide +kernel
theorem dX9_undo_0 : decode cX9_undo 0 = .ok (.aload_n 0, 1) := by decide +kernel
theorem dX9_undo_1 : decode cX9_undo 1 = .ok (.getfield 54, 3) := by decide +kernel
theorem dX9_undo_4 : decode cX9_undo 4 = .ok (.ifCond .ne 6, 3) := by decide +kernel
theorem dX9_undo_7 : decode cX9_undo 7 = .ok (.bipush (-2), 2) := by decide +kernel
theorem dX9_undo_9 : decode cX9_undo 9 = .ok (.ireturn, 1) := by decide +kernel
theorem dX9_undo_10 : decode cX9_undo 10 = .ok (.aload_n 0, 1) := by decide +kernel
theorem dX9_undo_11 : decode cX9_undo 11 = .ok (.dup, 1) := by decide +kernel
theorem dX9_undo_12 : decode cX9_undo 12 = .ok (.getfield 54, 3) := by decide +kernel
theorem dX9_undo_15 : decode cX9_undo 15 = .ok (.iconst 1, 1) := by decide +kernel
theorem dX9_undo_16 : decode cX9_undo 16 = .ok (.isub, 1) := by decide +kernel
theorem dX9_undo_17 : decode cX9_undo 17 = .ok (.putfield 54, 3) := by decide +kernel
theorem dX9_undo_20 : decode cX9_undo 20 = .ok (.iconst 0, 1) := by decide +kernel
theorem dX9_undo_21 : decode cX9_undo 21 = .ok (.istore_n 1, 1) := by decide +kernel
theorem dX9_undo_22 : decode cX9_undo 22 = .ok (.iload_n 1, 1) := by decide +kernel
theorem dX9_undo_23 : decode cX9_undo 23 = .ok (.sipush 1367, 3) := by decide +kernel
theorem dX9_undo_26 : decode cX9_undo 26 = .ok (.if_icmp .ge 30, 3) := by decide +kernel
theorem dX9_undo_29 : decode cX9_undo 29 = .ok (.aload_n 0, 1) := by decide +kernel
theorem dX9_undo_30 : decode cX9_undo 30 = .ok (.getfield 7, 3) := by decide +kernel
theorem dX9_undo_33 : decode cX9_undo 33 = .ok (.iload_n 1, 1) := by decide +kernel
theorem dX9_undo_34 : decode cX9_undo 34 = .ok (.aload_n 0, 1) := by decide +kernel
theorem dX9_undo_35 : decode cX9_undo 35 = .ok (.getfield 16, 3) := by decide +kernel
theorem dX9_undo_38 : decode cX9_undo 38 = .ok (.sipush 1367, 3) := by decide +kernel
theorem dX9_undo_41 : decode cX9_undo 41 = .ok (.aload_n 0, 1) := by decide +kernel
theorem dX9_undo_42 : decode cX9_undo 42 = .ok (.getfield 54, 3) := by decide +kernel
theorem dX9_undo_45 : decode cX9_undo 45 = .ok (.imul, 1) := by decide +kernel
theorem dX9_undo_46 : decode cX9_undo 46 = .ok (.iload_n 1, 1) := by decide +kernel
theorem dX9_undo_47 : decode cX9_undo 47 = .ok (.iadd, 1) := by decide +kernel
theorem dX9_undo_48 : decode cX9_undo 48 = .ok (.laload, 1) := by decide +kernel
theorem dX9_undo_49 : decode cX9_undo 49 = .ok (.lastore, 1) := by decide +kernel
theorem dX9_undo_50 : decode cX9_undo 50 = .ok (.iinc 1 1, 3) := by decide +kernel
theorem dX9_undo_53 : decode cX9_undo 53 = .ok (.goto (-31), 3) := by decide +kernel
theorem dX9_undo_56 : decode cX9_undo 56 = .ok (.aload_n 0, 1) := by decide +kernel
theorem dX9_undo_57 : decode cX9_undo 57 = .ok (.getfield 54, 3) := by decide +kernel
theorem dX9_undo_60 : decode cX9_undo 60 = .ok (.ireturn, 1) := by decide +kernel
theorem dX9_append_0 : decode cX9_append 0 = .ok (.iload_n 1, 1) := by decide +kernel
theorem dX9_append_1 : decode cX9_append 1 = .ok (.i2l, 1) := by decide +kernel
theorem dX9_append_2 : decode cX9_append 2 = .ok (.lconst 1, 1) := by decide +kernel
theorem dX9_append_3 : decode cX9_append 3 = .ok (.ldc2_w 189, 3) := by decide +kernel
theorem dX9_append_6 : decode cX9_append 6 = .ok (.invokestatic 32, 3) := by decide +kernel
theorem dX9_append_9 : decode cX9_append 9 = .ok (.ifCond .ne 5, 3) := by decide +kernel
theorem dX9_append_12 : decode cX9_append 12 = .ok (.iconst (-1), 1) := by decide +kernel
theorem dX9_append_13 : decode cX9_append 13 = .ok (.ireturn, 1) := by decide +kernel
theorem dX9_append_14 : decode cX9_append 14 = .ok (.aload_n 0, 1) := by decide +kernel
theorem dX9_append_15 : decode cX9_append 15 = .ok (.getfield 191, 3) := by decide +kernel
theorem dX9_append_18 : decode cX9_append 18 = .ok (.sipush 140, 3) := by decide +kernel
theorem dX9_append_21 : decode cX9_append 21 = .ok (.if_icmp .ne 6, 3) := by decide +kernel
theorem dX9_append_24 : decode cX9_append 24 = .ok (.bipush (-3), 2) := by decide +kernel
theorem dX9_append_26 : decode cX9_append 26 = .ok (.ireturn, 1) := by decide +kernel
theorem dX9_append_27 : decode cX9_append 27 = .ok (.aload_n 0, 1) := by decide +kernel
theorem dX9_append_28 : decode cX9_append 28 = .ok (.getfield 23, 3) := by decide +kernel
theorem dX9_append_31 : decode cX9_append 31 = .ok (.aload_n 0, 1) := by decide +kernel
theorem dX9_append_32 : decode cX9_append 32 = .ok (.getfield 191, 3) := by decide +kernel
theorem dX9_append_35 : decode cX9_append 35 = .ok (.iload_n 1, 1) := by decide +kernel
theorem dX9_append_36 : decode cX9_append 36 = .ok (.iastore, 1) := by decide +kernel
theorem dX9_append_37 : decode cX9_append 37 = .ok (.aload_n 0, 1) := by decide +kernel
theorem dX9_append_38 : decode cX9_append 38 = .ok (.dup, 1) := by decide +kernel
theorem dX9_append_39 : decode cX9_append 39 = .ok (.getfield 191, 3) := by decide +kernel
theorem dX9_append_42 : decode cX9_append 42 = .ok (.iconst 1, 1) := by decide +kernel
theorem dX9_append_43 : decode cX9_append 43 = .ok (.iadd, 1) := by decide +kernel
theorem dX9_append_44 : decode cX9_append 44 = .ok (.putfield 191, 3) := by decide +kernel
theorem dX9_append_47 : decode cX9_append 47 = .ok (.aload_n 0, 1) := by decide +kernel
theorem dX9_append_48 : decode cX9_append 48 = .ok (.getfield 191, 3) := by decide +kernel
theorem dX9_append_51 : decode cX9_append 51 = .ok (.ireturn, 1) := by decide +kernel
theorem dX9_clearText_0 : decode cX9_clearText 0 = .ok (.aload_n 0, 1) := by decide +kernel
theorem dX9_clearText_1 : decode cX9_clearText 1 = .ok (.getfield 191, 3) := by decide +kernel
theorem dX9_clearText_4 : decode cX9_clearText 4 = .ok (.istore_n 1, 1) := by decide +kernel
theorem dX9_clearText_5 : decode cX9_clearText 5 = .ok (.aload_n 0, 1) := by decide +kernel
theorem dX9_clearText_6 : decode cX9_clearText 6 = .ok (.iconst 0, 1) := by decide +kernel
theorem dX9_clearText_7 : decode cX9_clearText 7 = .ok (.putfield 191, 3) := by decide +kernel
theorem dX9_clearText_10 : decode cX9_clearText 10 = .ok (.iload_n 1, 1) := by decide +kernel
theorem dX9_clearText_11 : decode cX9_clearText 11 = .ok (.ireturn, 1) := by decide +kernel
theorem dX9_next_0 : decode cX9_next 0 = .ok (.aload_n 0, 1) := by decide +kernel
theorem dX9_next_1 : decode cX9_next 1 = .ok (.getfield 194, 3) := by decide +kernel
theorem dX9_next_4 : decode cX9_next 4 = .ok (.aload_n 0, 1) := by decide +kernel
theorem dX9_next_5 : decode cX9_next 5 = .ok (.getfield 191, 3) := by decide +kernel
theorem dX9_next_8 : decode cX9_next 8 = .ok (.if_icmp .ge 15, 3) := by decide +kernel
theorem dX9_next_11 : decode cX9_next 11 = .ok (.aload_n 0, 1) := by decide +kernel
theorem dX9_next_12 : decode cX9_next 12 = .ok (.getfield 23, 3) := by decide +kernel
theorem dX9_next_15 : decode cX9_next 15 = .ok (.aload_n 0, 1) := by decide +kernel
theorem dX9_next_16 : decode cX9_next 16 = .ok (.getfield 194, 3) := by decide +kernel
theorem dX9_next_19 : decode cX9_next 19 = .ok (.iaload, 1) := by decide +kernel
theorem dX9_next_20 : decode cX9_next 20 = .ok (.goto 5, 3) := by decide +kernel
theorem dX9_next_23 : decode cX9_next 23 = .ok (.bipush (-9), 2) := by decide +kernel
theorem dX9_next_25 : decode cX9_next 25 = .ok (.ireturn, 1) := by decide +kernel
theorem dX9_isLetter_0 : decode cX9_isLetter 0 = .ok (.iload_n 0, 1) := by decide +kernel
theorem dX9_isLetter_1 : decode cX9_isLetter 1 = .ok (.i2l, 1) := by decide +kernel
theorem dX9_isLetter_2 : decode cX9_isLetter 2 = .ok (.ldc2_w 197, 3) := by decide +kernel
theorem dX9_isLetter_5 : decode cX9_isLetter 5 = .ok (.ldc2_w 199, 3) := by decide +kernel
theorem dX9_isLetter_8 : decode cX9_isLetter 8 = .ok (.invokestatic 32, 3) := by decide +kernel
theorem dX9_isLetter_11 : decode cX9_isLetter 11 = .ok (.ireturn, 1) := by decide +kernel
theorem dX9_isDigit_0 : decode cX9_isDigit 0 = .ok (.iload_n 0, 1) := by decide +kernel
theorem dX9_isDigit_1 : decode cX9_isDigit 1 = .ok (.i2l, 1) := by decide +kernel
theorem dX9_isDigit_2 : decode cX9_isDigit 2 = .ok (.ldc2_w 201, 3) := by decide +kernel
theorem dX9_isDigit_5 : decode cX9_isDigit 5 = .ok (.ldc2_w 203, 3) := by decide +kernel
theorem dX9_isDigit_8 : decode cX9_isDigit 8 = .ok (.invokestatic 32, 3) := by decide +kernel
theorem dX9_isDigit_11 : decode cX9_isDigit 11 = .ok (.ireturn, 1) := by decide +kernel
theorem dX9_begins_0 : decode cX9_begins 0 = .ok (.aload_n 0, 1) := by decide +kernel
theorem dX9_begins_1 : decode cX9_begins 1 = .ok (.invokevirtual 205, 3) := by decide +kernel
theorem dX9_begins_4 : decode cX9_begins 4 = .ok (.bipush 32, 2) := by decide +kernel
theorem dX9_begins_6 : decode cX9_begins 6 = .ok (.if_icmp .ne 16, 3) := by decide +kernel
theorem dX9_begins_9 : decode cX9_begins 9 = .ok (.aload_n 0, 1) := by decide +kernel
theorem dX9_begins_10 : decode cX9_begins 10 = .ok (.dup, 1) := by decide +kernel
theorem dX9_begins_11 : decode cX9_begins 11 = .ok (.getfield 194, 3) := by decide +kernel
theorem dX9_begins_14 : decode cX9_begins 14 = .ok (.iconst 1, 1) := by decide +kernel
theorem dX9_begins_15 : decode cX9_begins 15 = .ok (.iadd, 1) := by decide +kernel
theorem dX9_begins_16 : decode cX9_begins 16 = .ok (.putfield 194, 3) := by decide +kernel
theorem dX9_begins_19 : decode cX9_begins 19 = .ok (.goto (-19), 3) := by decide +kernel
theorem dX9_begins_22 : decode cX9_begins 22 = .ok (.aload_n 0, 1) := by decide +kernel
theorem dX9_begins_23 : decode cX9_begins 23 = .ok (.aload_n 0, 1) := by decide +kernel
theorem dX9_begins_24 : decode cX9_begins 24 = .ok (.getfield 194, 3) := by decide +kernel
theorem dX9_begins_27 : decode cX9_begins 27 = .ok (.putfield 208, 3) := by decide +kernel
theorem dX9_begins_30 : decode cX9_begins 30 = .ok (.return_, 1) := by decide +kernel
theorem dX9_wordNext_0 : decode cX9_wordNext 0 = .ok (.aload_n 0, 1) := by decide +kernel
theorem dX9_wordNext_1 : decode cX9_wordNext 1 = .ok (.invokevirtual 211, 3) := by decide +kernel
theorem dX9_wordNext_4 : decode cX9_wordNext 4 = .ok (.lconst 0, 1) := by decide +kernel
theorem dX9_wordNext_5 : decode cX9_wordNext 5 = .ok (.lstore_n 1, 1) := by decide +kernel
theorem dX9_wordNext_6 : decode cX9_wordNext 6 = .ok (.aload_n 0, 1) := by decide +kernel
theorem dX9_wordNext_7 : decode cX9_wordNext 7 = .ok (.invokevirtual 205, 3) := by decide +kernel
theorem dX9_wordNext_10 : decode cX9_wordNext 10 = .ok (.invokestatic 214, 3) := by decide +kernel
theorem dX9_wordNext_13 : decode cX9_wordNext 13 = .ok (.ifCond .eq 50, 3) := by decide +kernel
theorem dX9_wordNext_16 : decode cX9_wordNext 16 = .ok (.aload_n 0, 1) := by decide +kernel
theorem dX9_wordNext_17 : decode cX9_wordNext 17 = .ok (.getfield 194, 3) := by decide +kernel
theorem dX9_wordNext_20 : decode cX9_wordNext 20 = .ok (.aload_n 0, 1) := by decide +kernel
theorem dX9_wordNext_21 : decode cX9_wordNext 21 = .ok (.getfield 208, 3) := by decide +kernel
theorem dX9_wordNext_24 : decode cX9_wordNext 24 = .ok (.isub, 1) := by decide +kernel
theorem dX9_wordNext_25 : decode cX9_wordNext 25 = .ok (.bipush 8, 2) := by decide +kernel
theorem dX9_wordNext_27 : decode cX9_wordNext 27 = .ok (.if_icmp .ge 21, 3) := by decide +kernel
theorem dX9_wordNext_30 : decode cX9_wordNext 30 = .ok (.ldc2_w 217, 3) := by decide +kernel
theorem dX9_wordNext_33 : decode cX9_wordNext 33 = .ok (.lload_n 1, 1) := by decide +kernel
theorem dX9_wordNext_34 : decode cX9_wordNext 34 = .ok (.lmul, 1) := by decide +kernel
theorem dX9_wordNext_35 : decode cX9_wordNext 35 = .ok (.aload_n 0, 1) := by decide +kernel
theorem dX9_wordNext_36 : decode cX9_wordNext 36 = .ok (.invokevirtual 205, 3) := by decide +kernel
theorem dX9_wordNext_39 : decode cX9_wordNext 39 = .ok (.i2l, 1) := by decide +kernel
theorem dX9_wordNext_40 : decode cX9_wordNext 40 = .ok (.ladd, 1) := by decide +kernel
theorem dX9_wordNext_41 : decode cX9_wordNext 41 = .ok (.ldc2_w 219, 3) := by decide +kernel
theorem dX9_wordNext_44 : decode cX9_wordNext 44 = .ok (.lsub, 1) := by decide +kernel
theorem dX9_wordNext_45 : decode cX9_wordNext 45 = .ok (.goto 4, 3) := by decide +kernel
theorem dX9_wordNext_48 : decode cX9_wordNext 48 = .ok (.lconst 0, 1) := by decide +kernel
theorem dX9_wordNext_49 : decode cX9_wordNext 49 = .ok (.lstore_n 1, 1) := by decide +kernel
theorem dX9_wordNext_50 : decode cX9_wordNext 50 = .ok (.aload_n 0, 1) := by decide +kernel
theorem dX9_wordNext_51 : decode cX9_wordNext 51 = .ok (.dup, 1) := by decide +kernel
theorem dX9_wordNext_52 : decode cX9_wordNext 52 = .ok (.getfield 194, 3) := by decide +kernel
theorem dX9_wordNext_55 : decode cX9_wordNext 55 = .ok (.iconst 1, 1) := by decide +kernel
theorem dX9_wordNext_56 : decode cX9_wordNext 56 = .ok (.iadd, 1) := by decide +kernel
theorem dX9_wordNext_57 : decode cX9_wordNext 57 = .ok (.putfield 194, 3) := by decide +kernel
theorem dX9_wordNext_60 : decode cX9_wordNext 60 = .ok (.goto (-54), 3) := by decide +kernel
theorem dX9_wordNext_63 : decode cX9_wordNext 63 = .ok (.aload_n 0, 1) := by decide +kernel
theorem dX9_wordNext_64 : decode cX9_wordNext 64 = .ok (.getfield 194, 3) := by decide +kernel
theorem dX9_wordNext_67 : decode cX9_wordNext 67 = .ok (.aload_n 0, 1) := by decide +kernel
theorem dX9_wordNext_68 : decode cX9_wordNext 68 = .ok (.getfield 208, 3) := by decide +kernel
theorem dX9_wordNext_71 : decode cX9_wordNext 71 = .ok (.isub, 1) := by decide +kernel
theorem dX9_wordNext_72 : decode cX9_wordNext 72 = .ok (.bipush 8, 2) := by decide +kernel
theorem dX9_wordNext_74 : decode cX9_wordNext 74 = .ok (.if_icmp .ge 7, 3) := by decide +kernel
theorem dX9_wordNext_77 : decode cX9_wordNext 77 = .ok (.lload_n 1, 1) := by decide +kernel
theorem dX9_wordNext_78 : decode cX9_wordNext 78 = .ok (.goto 4, 3) := by decide +kernel
theorem dX9_wordNext_81 : decode cX9_wordNext 81 = .ok (.lconst 0, 1) := by decide +kernel
theorem dX9_wordNext_82 : decode cX9_wordNext 82 = .ok (.lreturn, 1) := by decide +kernel
theorem dX9_numberNext_0 : decode cX9_numberNext 0 = .ok (.aload_n 0, 1) := by decide +kernel
theorem dX9_numberNext_1 : decode cX9_numberNext 1 = .ok (.getfield 221, 3) := by decide +kernel
theorem dX9_numberNext_4 : decode cX9_numberNext 4 = .ok (.ifCond .eq 5, 3) := by decide +kernel
theorem dX9_numberNext_7 : decode cX9_numberNext 7 = .ok (.lconst 0, 1) := by decide +kernel
theorem dX9_numberNext_8 : decode cX9_numberNext 8 = .ok (.lreturn, 1) := by decide +kernel
theorem dX9_numberNext_9 : decode cX9_numberNext 9 = .ok (.aload_n 0, 1) := by decide +kernel
theorem dX9_numberNext_10 : decode cX9_numberNext 10 = .ok (.invokevirtual 211, 3) := by decide +kernel
theorem dX9_numberNext_13 : decode cX9_numberNext 13 = .ok (.lconst 0, 1) := by decide +kernel
theorem dX9_numberNext_14 : decode cX9_numberNext 14 = .ok (.lstore_n 2, 1) := by decide +kernel
theorem dX9_numberNext_15 : decode cX9_numberNext 15 = .ok (.aload_n 0, 1) := by decide +kernel
theorem dX9_numberNext_16 : decode cX9_numberNext 16 = .ok (.invokevirtual 205, 3) := by decide +kernel
theorem dX9_numberNext_19 : decode cX9_numberNext 19 = .ok (.invokestatic 225, 3) := by decide +kernel
theorem dX9_numberNext_22 : decode cX9_numberNext 22 = .ok (.ifCond .eq 50, 3) := by decide +kernel
theorem dX9_numberNext_25 : decode cX9_numberNext 25 = .ok (.aload_n 0, 1) := by decide +kernel
theorem dX9_numberNext_26 : decode cX9_numberNext 26 = .ok (.getfield 194, 3) := by decide +kernel
theorem dX9_numberNext_29 : decode cX9_numberNext 29 = .ok (.aload_n 0, 1) := by decide +kernel
theorem dX9_numberNext_30 : decode cX9_numberNext 30 = .ok (.getfield 208, 3) := by decide +kernel
theorem dX9_numberNext_33 : decode cX9_numberNext 33 = .ok (.isub, 1) := by decide +kernel
theorem dX9_numberNext_34 : decode cX9_numberNext 34 = .ok (.bipush 12, 2) := by decide +kernel
theorem dX9_numberNext_36 : decode cX9_numberNext 36 = .ok (.if_icmp .ge 21, 3) := by decide +kernel
theorem dX9_numberNext_39 : decode cX9_numberNext 39 = .ok (.ldc2_w 38, 3) := by decide +kernel
theorem dX9_numberNext_42 : decode cX9_numberNext 42 = .ok (.lload_n 2, 1) := by decide +kernel
theorem dX9_numberNext_43 : decode cX9_numberNext 43 = .ok (.lmul, 1) := by decide +kernel
theorem dX9_numberNext_44 : decode cX9_numberNext 44 = .ok (.aload_n 0, 1) := by decide +kernel
theorem dX9_numberNext_45 : decode cX9_numberNext 45 = .ok (.invokevirtual 205, 3) := by decide +kernel
theorem dX9_numberNext_48 : decode cX9_numberNext 48 = .ok (.i2l, 1) := by decide +kernel
theorem dX9_numberNext_49 : decode cX9_numberNext 49 = .ok (.ladd, 1) := by decide +kernel
theorem dX9_numberNext_50 : decode cX9_numberNext 50 = .ok (.ldc2_w 201, 3) := by decide +kernel
theorem dX9_numberNext_53 : decode cX9_numberNext 53 = .ok (.lsub, 1) := by decide +kernel
theorem dX9_numberNext_54 : decode cX9_numberNext 54 = .ok (.goto 4, 3) := by decide +kernel
theorem dX9_numberNext_57 : decode cX9_numberNext 57 = .ok (.lload_n 2, 1) := by decide +kernel
theorem dX9_numberNext_58 : decode cX9_numberNext 58 = .ok (.lstore_n 2, 1) := by decide +kernel
theorem dX9_numberNext_59 : decode cX9_numberNext 59 = .ok (.aload_n 0, 1) := by decide +kernel
theorem dX9_numberNext_60 : decode cX9_numberNext 60 = .ok (.dup, 1) := by decide +kernel
theorem dX9_numberNext_61 : decode cX9_numberNext 61 = .ok (.getfield 194, 3) := by decide +kernel
theorem dX9_numberNext_64 : decode cX9_numberNext 64 = .ok (.iconst 1, 1) := by decide +kernel
theorem dX9_numberNext_65 : decode cX9_numberNext 65 = .ok (.iadd, 1) := by decide +kernel
theorem dX9_numberNext_66 : decode cX9_numberNext 66 = .ok (.putfield 194, 3) := by decide +kernel
theorem dX9_numberNext_69 : decode cX9_numberNext 69 = .ok (.goto (-54), 3) := by decide +kernel
theorem dX9_numberNext_72 : decode cX9_numberNext 72 = .ok (.aload_n 0, 1) := by decide +kernel
theorem dX9_numberNext_73 : decode cX9_numberNext 73 = .ok (.getfield 194, 3) := by decide +kernel
theorem dX9_numberNext_76 : decode cX9_numberNext 76 = .ok (.aload_n 0, 1) := by decide +kernel
theorem dX9_numberNext_77 : decode cX9_numberNext 77 = .ok (.getfield 208, 3) := by decide +kernel
theorem dX9_numberNext_80 : decode cX9_numberNext 80 = .ok (.isub, 1) := by decide +kernel
theorem dX9_numberNext_81 : decode cX9_numberNext 81 = .ok (.istore 4, 2) := by decide +kernel
theorem dX9_numberNext_83 : decode cX9_numberNext 83 = .ok (.aload_n 0, 1) := by decide +kernel
theorem dX9_numberNext_84 : decode cX9_numberNext 84 = .ok (.iload_n 1, 1) := by decide +kernel
theorem dX9_numberNext_85 : decode cX9_numberNext 85 = .ok (.ifCond .eq 18, 3) := by decide +kernel
theorem dX9_numberNext_88 : decode cX9_numberNext 88 = .ok (.iload 4, 2) := by decide +kernel
theorem dX9_numberNext_90 : decode cX9_numberNext 90 = .ok (.bipush 12, 2) := by decide +kernel
theorem dX9_numberNext_92 : decode cX9_numberNext 92 = .ok (.if_icmp .eq 7, 3) := by decide +kernel
theorem dX9_numberNext_95 : decode cX9_numberNext 95 = .ok (.iconst 1, 1) := by decide +kernel
theorem dX9_numberNext_96 : decode cX9_numberNext 96 = .ok (.goto 44, 3) := by decide +kernel
theorem dX9_numberNext_99 : decode cX9_numberNext 99 = .ok (.iconst 0, 1) := by decide +kernel
theorem dX9_numberNext_100 : decode cX9_numberNext 100 = .ok (.goto 40, 3) := by decide +kernel
theorem dX9_numberNext_103 : decode cX9_numberNext 103 = .ok (.iload 4, 2) := by decide +kernel
theorem dX9_numberNext_105 : decode cX9_numberNext 105 = .ok (.iconst 1, 1) := by decide +kernel
theorem dX9_numberNext_106 : decode cX9_numberNext 106 = .ok (.if_icmp .lt 29, 3) := by decide +kernel
theorem dX9_numberNext_109 : decode cX9_numberNext 109 = .ok (.iload 4, 2) := by decide +kernel
theorem dX9_numberNext_111 : decode cX9_numberNext 111 = .ok (.iconst 5, 1) := by decide +kernel
theorem dX9_numberNext_112 : decode cX9_numberNext 112 = .ok (.if_icmp .gt 23, 3) := by decide +kernel
theorem dX9_numberNext_115 : decode cX9_numberNext 115 = .ok (.iload 4, 2) := by decide +kernel
theorem dX9_numberNext_117 : decode cX9_numberNext 117 = .ok (.iconst 1, 1) := by decide +kernel
theorem dX9_numberNext_118 : decode cX9_numberNext 118 = .ok (.if_icmp .le 21, 3) := by decide +kernel
theorem dX9_numberNext_121 : decode cX9_numberNext 121 = .ok (.aload_n 0, 1) := by decide +kernel
theorem dX9_numberNext_122 : decode cX9_numberNext 122 = .ok (.getfield 23, 3) := by decide +kernel
theorem dX9_numberNext_125 : decode cX9_numberNext 125 = .ok (.aload_n 0, 1) := by decide +kernel
theorem dX9_numberNext_126 : decode cX9_numberNext 126 = .ok (.getfield 208, 3) := by decide +kernel
theorem dX9_numberNext_129 : decode cX9_numberNext 129 = .ok (.iaload, 1) := by decide +kernel
theorem dX9_numberNext_130 : decode cX9_numberNext 130 = .ok (.bipush 48, 2) := by decide +kernel
theorem dX9_numberNext_132 : decode cX9_numberNext 132 = .ok (.if_icmp .ne 7, 3) := by decide +kernel
theorem dX9_numberNext_135 : decode cX9_numberNext 135 = .ok (.iconst 1, 1) := by decide +kernel
theorem dX9_numberNext_136 : decode cX9_numberNext 136 = .ok (.goto 4, 3) := by decide +kernel
theorem dX9_numberNext_139 : decode cX9_numberNext 139 = .ok (.iconst 0, 1) := by decide +kernel
theorem dX9_numberNext_140 : decode cX9_numberNext 140 = .ok (.putfield 221, 3) := by decide +kernel
theorem dX9_numberNext_143 : decode cX9_numberNext 143 = .ok (.lload_n 2, 1) := by decide +kernel
theorem dX9_numberNext_144 : decode cX9_numberNext 144 = .ok (.lreturn, 1) := by decide +kernel
theorem dX9_readsCommand_0 : decode cX9_readsCommand 0 = .ok (.aload_n 0, 1) := by decide +kernel
theorem dX9_readsCommand_1 : decode cX9_readsCommand 1 = .ok (.invokevirtual 228, 3) := by decide +kernel
theorem dX9_readsCommand_4 : decode cX9_readsCommand 4 = .ok (.lstore_n 1, 1) := by decide +kernel
theorem dX9_readsCommand_5 : decode cX9_readsCommand 5 = .ok (.aload_n 0, 1) := by decide +kernel
theorem dX9_readsCommand_6 : decode cX9_readsCommand 6 = .ok (.aload_n 0, 1) := by decide +kernel
theorem dX9_readsCommand_7 : decode cX9_readsCommand 7 = .ok (.getfield 208, 3) := by decide +kernel
theorem dX9_readsCommand_10 : decode cX9_readsCommand 10 = .ok (.putfield 232, 3) := by decide +kernel
theorem dX9_readsCommand_13 : decode cX9_readsCommand 13 = .ok (.aload_n 0, 1) := by decide +kernel
theorem dX9_readsCommand_14 : decode cX9_readsCommand 14 = .ok (.lload_n 1, 1) := by decide +kernel
theorem dX9_readsCommand_15 : decode cX9_readsCommand 15 = .ok (.ldc2_w 235, 3) := by decide +kernel
theorem dX9_readsCommand_18 : decode cX9_readsCommand 18 = .ok (.lcmp, 1) := by decide +kernel
theorem dX9_readsCommand_19 : decode cX9_readsCommand 19 = .ok (.ifCond .eq 39, 3) := by decide +kernel
theorem dX9_readsCommand_22 : decode cX9_readsCommand 22 = .ok (.lload_n 1, 1) := by decide +kernel
theorem dX9_readsCommand_23 : decode cX9_readsCommand 23 = .ok (.ldc2_w 237, 3) := by decide +kernel
theorem dX9_readsCommand_26 : decode cX9_readsCommand 26 = .ok (.lcmp, 1) := by decide +kernel
theorem dX9_readsCommand_27 : decode cX9_readsCommand 27 = .ok (.ifCond .eq 31, 3) := by decide +kernel
theorem dX9_readsCommand_30 : decode cX9_readsCommand 30 = .ok (.lload_n 1, 1) := by decide +kernel
theorem dX9_readsCommand_31 : decode cX9_readsCommand 31 = .ok (.ldc2_w 239, 3) := by decide +kernel
theorem dX9_readsCommand_34 : decode cX9_readsCommand 34 = .ok (.lcmp, 1) := by decide +kernel
theorem dX9_readsCommand_35 : decode cX9_readsCommand 35 = .ok (.ifCond .eq 23, 3) := by decide +kernel
theorem dX9_readsCommand_38 : decode cX9_readsCommand 38 = .ok (.lload_n 1, 1) := by decide +kernel
theorem dX9_readsCommand_39 : decode cX9_readsCommand 39 = .ok (.ldc2_w 241, 3) := by decide +kernel
theorem dX9_readsCommand_42 : decode cX9_readsCommand 42 = .ok (.lcmp, 1) := by decide +kernel
theorem dX9_readsCommand_43 : decode cX9_readsCommand 43 = .ok (.ifCond .eq 15, 3) := by decide +kernel
theorem dX9_readsCommand_46 : decode cX9_readsCommand 46 = .ok (.lload_n 1, 1) := by decide +kernel
theorem dX9_readsCommand_47 : decode cX9_readsCommand 47 = .ok (.ldc2_w 243, 3) := by decide +kernel
theorem dX9_readsCommand_50 : decode cX9_readsCommand 50 = .ok (.lcmp, 1) := by decide +kernel
theorem dX9_readsCommand_51 : decode cX9_readsCommand 51 = .ok (.ifCond .eq 7, 3) := by decide +kernel
theorem dX9_readsCommand_54 : decode cX9_readsCommand 54 = .ok (.iconst 1, 1) := by decide +kernel
theorem dX9_readsCommand_55 : decode cX9_readsCommand 55 = .ok (.goto 4, 3) := by decide +kernel
theorem dX9_readsCommand_58 : decode cX9_readsCommand 58 = .ok (.iconst 0, 1) := by decide +kernel
theorem dX9_readsCommand_59 : decode cX9_readsCommand 59 = .ok (.putfield 221, 3) := by decide +kernel
theorem dX9_readsCommand_62 : decode cX9_readsCommand 62 = .ok (.aload_n 0, 1) := by decide +kernel
theorem dX9_readsCommand_63 : decode cX9_readsCommand 63 = .ok (.lload_n 1, 1) := by decide +kernel
theorem dX9_readsCommand_64 : decode cX9_readsCommand 64 = .ok (.ldc2_w 243, 3) := by decide +kernel
theorem dX9_readsCommand_67 : decode cX9_readsCommand 67 = .ok (.lcmp, 1) := by decide +kernel
theorem dX9_readsCommand_68 : decode cX9_readsCommand 68 = .ok (.ifCond .ne 7, 3) := by decide +kernel
theorem dX9_readsCommand_71 : decode cX9_readsCommand 71 = .ok (.lconst 0, 1) := by decide +kernel
theorem dX9_readsCommand_72 : decode cX9_readsCommand 72 = .ok (.goto 8, 3) := by decide +kernel
theorem dX9_readsCommand_75 : decode cX9_readsCommand 75 = .ok (.aload_n 0, 1) := by decide +kernel
theorem dX9_readsCommand_76 : decode cX9_readsCommand 76 = .ok (.iconst 0, 1) := by decide +kernel
theorem dX9_readsCommand_77 : decode cX9_readsCommand 77 = .ok (.invokevirtual 245, 3) := by decide +kernel
theorem dX9_readsCommand_80 : decode cX9_readsCommand 80 = .ok (.putfield 249, 3) := by decide +kernel
theorem dX9_readsCommand_83 : decode cX9_readsCommand 83 = .ok (.aload_n 0, 1) := by decide +kernel
theorem dX9_readsCommand_84 : decode cX9_readsCommand 84 = .ok (.lload_n 1, 1) := by decide +kernel
theorem dX9_readsCommand_85 : decode cX9_readsCommand 85 = .ok (.ldc2_w 243, 3) := by decide +kernel
theorem dX9_readsCommand_88 : decode cX9_readsCommand 88 = .ok (.lcmp, 1) := by decide +kernel
theorem dX9_readsCommand_89 : decode cX9_readsCommand 89 = .ok (.ifCond .eq 11, 3) := by decide +kernel
theorem dX9_readsCommand_92 : decode cX9_readsCommand 92 = .ok (.lload_n 1, 1) := by decide +kernel
theorem dX9_readsCommand_93 : decode cX9_readsCommand 93 = .ok (.ldc2_w 237, 3) := by decide +kernel
theorem dX9_readsCommand_96 : decode cX9_readsCommand 96 = .ok (.lcmp, 1) := by decide +kernel
theorem dX9_readsCommand_97 : decode cX9_readsCommand 97 = .ok (.ifCond .ne 7, 3) := by decide +kernel
theorem dX9_readsCommand_100 : decode cX9_readsCommand 100 = .ok (.lconst 0, 1) := by decide +kernel
theorem dX9_readsCommand_101 : decode cX9_readsCommand 101 = .ok (.goto 20, 3) := by decide +kernel
theorem dX9_readsCommand_104 : decode cX9_readsCommand 104 = .ok (.aload_n 0, 1) := by decide +kernel
theorem dX9_readsCommand_105 : decode cX9_readsCommand 105 = .ok (.lload_n 1, 1) := by decide +kernel
theorem dX9_readsCommand_106 : decode cX9_readsCommand 106 = .ok (.ldc2_w 239, 3) := by decide +kernel
theorem dX9_readsCommand_109 : decode cX9_readsCommand 109 = .ok (.lcmp, 1) := by decide +kernel
theorem dX9_readsCommand_110 : decode cX9_readsCommand 110 = .ok (.ifCond .eq 7, 3) := by decide +kernel
theorem dX9_readsCommand_113 : decode cX9_readsCommand 113 = .ok (.iconst 1, 1) := by decide +kernel
theorem dX9_readsCommand_114 : decode cX9_readsCommand 114 = .ok (.goto 4, 3) := by decide +kernel
theorem dX9_readsCommand_117 : decode cX9_readsCommand 117 = .ok (.iconst 0, 1) := by decide +kernel
theorem dX9_readsCommand_118 : decode cX9_readsCommand 118 = .ok (.invokevirtual 245, 3) := by decide +kernel
theorem dX9_readsCommand_121 : decode cX9_readsCommand 121 = .ok (.putfield 253, 3) := by decide +kernel
theorem dX9_readsCommand_124 : decode cX9_readsCommand 124 = .ok (.aload_n 0, 1) := by decide +kernel
theorem dX9_readsCommand_125 : decode cX9_readsCommand 125 = .ok (.getfield 221, 3) := by decide +kernel
theorem dX9_readsCommand_128 : decode cX9_readsCommand 128 = .ok (.ifCond .ne 35, 3) := by decide +kernel
theorem dX9_readsCommand_131 : decode cX9_readsCommand 131 = .ok (.aload_n 0, 1) := by decide +kernel
theorem dX9_readsCommand_132 : decode cX9_readsCommand 132 = .ok (.invokevirtual 211, 3) := by decide +kernel
theorem dX9_readsCommand_135 : decode cX9_readsCommand 135 = .ok (.aload_n 0, 1) := by decide +kernel
theorem dX9_readsCommand_136 : decode cX9_readsCommand 136 = .ok (.aload_n 0, 1) := by decide +kernel
theorem dX9_readsCommand_137 : decode cX9_readsCommand 137 = .ok (.invokevirtual 205, 3) := by decide +kernel
theorem dX9_readsCommand_140 : decode cX9_readsCommand 140 = .ok (.bipush 59, 2) := by decide +kernel
theorem dX9_readsCommand_142 : decode cX9_readsCommand 142 = .ok (.if_icmp .eq 7, 3) := by decide +kernel
theorem dX9_readsCommand_145 : decode cX9_readsCommand 145 = .ok (.iconst 1, 1) := by decide +kernel
theorem dX9_readsCommand_146 : decode cX9_readsCommand 146 = .ok (.goto 4, 3) := by decide +kernel
theorem dX9_readsCommand_149 : decode cX9_readsCommand 149 = .ok (.iconst 0, 1) := by decide +kernel
theorem dX9_readsCommand_150 : decode cX9_readsCommand 150 = .ok (.putfield 221, 3) := by decide +kernel
theorem dX9_readsCommand_153 : decode cX9_readsCommand 153 = .ok (.aload_n 0, 1) := by decide +kernel
theorem dX9_readsCommand_154 : decode cX9_readsCommand 154 = .ok (.dup, 1) := by decide +kernel
theorem dX9_readsCommand_155 : decode cX9_readsCommand 155 = .ok (.getfield 194, 3) := by decide +kernel
theorem dX9_readsCommand_158 : decode cX9_readsCommand 158 = .ok (.iconst 1, 1) := by decide +kernel
theorem dX9_readsCommand_159 : decode cX9_readsCommand 159 = .ok (.iadd, 1) := by decide +kernel
theorem dX9_readsCommand_160 : decode cX9_readsCommand 160 = .ok (.putfield 194, 3) := by decide +kernel
theorem dX9_readsCommand_163 : decode cX9_readsCommand 163 = .ok (.lload_n 1, 1) := by decide +kernel
theorem dX9_readsCommand_164 : decode cX9_readsCommand 164 = .ok (.lreturn, 1) := by decide +kernel
theorem dX9_does_0 : decode cX9_does 0 = .ok (.lload_n 1, 1) := by decide +kernel
theorem dX9_does_1 : decode cX9_does 1 = .ok (.ldc2_w 235, 3) := by decide +kernel
theorem dX9_does_4 : decode cX9_does 4 = .ok (.lcmp, 1) := by decide +kernel
theorem dX9_does_5 : decode cX9_does 5 = .ok (.ifCond .ne 16, 3) := by decide +kernel
theorem dX9_does_8 : decode cX9_does 8 = .ok (.aload_n 0, 1) := by decide +kernel
theorem dX9_does_9 : decode cX9_does 9 = .ok (.aload_n 0, 1) := by decide +kernel
theorem dX9_does_10 : decode cX9_does 10 = .ok (.getfield 249, 3) := by decide +kernel
theorem dX9_does_13 : decode cX9_does 13 = .ok (.aload_n 0, 1) := by decide +kernel
theorem dX9_does_14 : decode cX9_does 14 = .ok (.getfield 253, 3) := by decide +kernel
theorem dX9_does_17 : decode cX9_does 17 = .ok (.invokevirtual 159, 3) := by decide +kernel
theorem dX9_does_20 : decode cX9_does 20 = .ok (.ireturn, 1) := by decide +kernel
theorem dX9_does_21 : decode cX9_does 21 = .ok (.lload_n 1, 1) := by decide +kernel
theorem dX9_does_22 : decode cX9_does 22 = .ok (.ldc2_w 237, 3) := by decide +kernel
theorem dX9_does_25 : decode cX9_does 25 = .ok (.lcmp, 1) := by decide +kernel
theorem dX9_does_26 : decode cX9_does 26 = .ok (.ifCond .ne 12, 3) := by decide +kernel
theorem dX9_does_29 : decode cX9_does 29 = .ok (.aload_n 0, 1) := by decide +kernel
theorem dX9_does_30 : decode cX9_does 30 = .ok (.aload_n 0, 1) := by decide +kernel
theorem dX9_does_31 : decode cX9_does 31 = .ok (.getfield 249, 3) := by decide +kernel
theorem dX9_does_34 : decode cX9_does 34 = .ok (.invokevirtual 165, 3) := by decide +kernel
theorem dX9_does_37 : decode cX9_does 37 = .ok (.ireturn, 1) := by decide +kernel
theorem dX9_does_38 : decode cX9_does 38 = .ok (.lload_n 1, 1) := by decide +kernel
theorem dX9_does_39 : decode cX9_does 39 = .ok (.ldc2_w 239, 3) := by decide +kernel
theorem dX9_does_42 : decode cX9_does 42 = .ok (.lcmp, 1) := by decide +kernel
theorem dX9_does_43 : decode cX9_does 43 = .ok (.ifCond .ne 16, 3) := by decide +kernel
theorem dX9_does_46 : decode cX9_does 46 = .ok (.aload_n 0, 1) := by decide +kernel
theorem dX9_does_47 : decode cX9_does 47 = .ok (.aload_n 0, 1) := by decide +kernel
theorem dX9_does_48 : decode cX9_does 48 = .ok (.getfield 249, 3) := by decide +kernel
theorem dX9_does_51 : decode cX9_does 51 = .ok (.aload_n 0, 1) := by decide +kernel
theorem dX9_does_52 : decode cX9_does 52 = .ok (.getfield 253, 3) := by decide +kernel
theorem dX9_does_55 : decode cX9_does 55 = .ok (.invokevirtual 180, 3) := by decide +kernel
theorem dX9_does_58 : decode cX9_does 58 = .ok (.ireturn, 1) := by decide +kernel
theorem dX9_does_59 : decode cX9_does 59 = .ok (.lload_n 1, 1) := by decide +kernel
theorem dX9_does_60 : decode cX9_does 60 = .ok (.ldc2_w 241, 3) := by decide +kernel
theorem dX9_does_63 : decode cX9_does 63 = .ok (.lcmp, 1) := by decide +kernel
theorem dX9_does_64 : decode cX9_does 64 = .ok (.ifCond .ne 18, 3) := by decide +kernel
theorem dX9_does_67 : decode cX9_does 67 = .ok (.aload_n 0, 1) := by decide +kernel
theorem dX9_does_68 : decode cX9_does 68 = .ok (.aload_n 0, 1) := by decide +kernel
theorem dX9_does_69 : decode cX9_does 69 = .ok (.getfield 249, 3) := by decide +kernel
theorem dX9_does_72 : decode cX9_does 72 = .ok (.aload_n 0, 1) := by decide +kernel
theorem dX9_does_73 : decode cX9_does 73 = .ok (.getfield 253, 3) := by decide +kernel
theorem dX9_does_76 : decode cX9_does 76 = .ok (.invokevirtual 183, 3) := by decide +kernel
theorem dX9_does_79 : decode cX9_does 79 = .ok (.goto 7, 3) := by decide +kernel
theorem dX9_does_82 : decode cX9_does 82 = .ok (.aload_n 0, 1) := by decide +kernel
theorem dX9_does_83 : decode cX9_does 83 = .ok (.invokevirtual 177, 3) := by decide +kernel
theorem dX9_does_86 : decode cX9_does 86 = .ok (.ireturn, 1) := by decide +kernel
theorem dX9_fails_0 : decode cX9_fails 0 = .ok (.aload_n 0, 1) := by decide +kernel
theorem dX9_fails_1 : decode cX9_fails 1 = .ok (.iload_n 1, 1) := by decide +kernel
theorem dX9_fails_2 : decode cX9_fails 2 = .ok (.putfield 256, 3) := by decide +kernel
theorem dX9_fails_5 : decode cX9_fails 5 = .ok (.aload_n 0, 1) := by decide +kernel
theorem dX9_fails_6 : decode cX9_fails 6 = .ok (.iload_n 2, 1) := by decide +kernel
theorem dX9_fails_7 : decode cX9_fails 7 = .ok (.putfield 259, 3) := by decide +kernel
theorem dX9_fails_10 : decode cX9_fails 10 = .ok (.aload_n 0, 1) := by decide +kernel
theorem dX9_fails_11 : decode cX9_fails 11 = .ok (.iload_n 3, 1) := by decide +kernel
theorem dX9_fails_12 : decode cX9_fails 12 = .ok (.putfield 262, 3) := by decide +kernel
theorem dX9_fails_15 : decode cX9_fails 15 = .ok (.aload_n 0, 1) := by decide +kernel
theorem dX9_fails_16 : decode cX9_fails 16 = .ok (.iload 4, 2) := by decide +kernel
theorem dX9_fails_18 : decode cX9_fails 18 = .ok (.putfield 265, 3) := by decide +kernel
theorem dX9_fails_21 : decode cX9_fails 21 = .ok (.iconst 0, 1) := by decide +kernel
theorem dX9_fails_22 : decode cX9_fails 22 = .ok (.istore 5, 2) := by decide +kernel
theorem dX9_fails_24 : decode cX9_fails 24 = .ok (.iload 5, 2) := by decide +kernel
theorem dX9_fails_26 : decode cX9_fails 26 = .ok (.sipush 1367, 3) := by decide +kernel
theorem dX9_fails_29 : decode cX9_fails 29 = .ok (.if_icmp .ge 23, 3) := by decide +kernel
theorem dX9_fails_32 : decode cX9_fails 32 = .ok (.aload_n 0, 1) := by decide +kernel
theorem dX9_fails_33 : decode cX9_fails 33 = .ok (.getfield 7, 3) := by decide +kernel
theorem dX9_fails_36 : decode cX9_fails 36 = .ok (.iload 5, 2) := by decide +kernel
theorem dX9_fails_38 : decode cX9_fails 38 = .ok (.aload_n 0, 1) := by decide +kernel
theorem dX9_fails_39 : decode cX9_fails 39 = .ok (.getfield 13, 3) := by decide +kernel
theorem dX9_fails_42 : decode cX9_fails 42 = .ok (.iload 5, 2) := by decide +kernel
theorem dX9_fails_44 : decode cX9_fails 44 = .ok (.laload, 1) := by decide +kernel
theorem dX9_fails_45 : decode cX9_fails 45 = .ok (.lastore, 1) := by decide +kernel
theorem dX9_fails_46 : decode cX9_fails 46 = .ok (.iinc 5 1, 3) := by decide +kernel
theorem dX9_fails_49 : decode cX9_fails 49 = .ok (.goto (-25), 3) := by decide +kernel
theorem dX9_fails_52 : decode cX9_fails 52 = .ok (.sipush (-1000), 3) := by decide +kernel
theorem dX9_fails_55 : decode cX9_fails 55 = .ok (.iload_n 2, 1) := by decide +kernel
theorem dX9_fails_56 : decode cX9_fails 56 = .ok (.isub, 1) := by decide +kernel
theorem dX9_fails_57 : decode cX9_fails 57 = .ok (.ireturn, 1) := by decide +kernel
theorem dX9_run_0 : decode cX9_run 0 = .ok (.aload_n 0, 1) := by decide +kernel
theorem dX9_run_1 : decode cX9_run 1 = .ok (.invokevirtual 156, 3) := by decide +kernel
theorem dX9_run_4 : decode cX9_run 4 = .ok (.aload_n 0, 1) := by decide +kernel
theorem dX9_run_5 : decode cX9_run 5 = .ok (.iconst 0, 1) := by decide +kernel
theorem dX9_run_6 : decode cX9_run 6 = .ok (.putfield 194, 3) := by decide +kernel
theorem dX9_run_9 : decode cX9_run 9 = .ok (.iconst 0, 1) := by decide +kernel
theorem dX9_run_10 : decode cX9_run 10 = .ok (.istore_n 1, 1) := by decide +kernel
theorem dX9_run_11 : decode cX9_run 11 = .ok (.aload_n 0, 1) := by decide +kernel
theorem dX9_run_12 : decode cX9_run 12 = .ok (.invokevirtual 211, 3) := by decide +kernel
theorem dX9_run_15 : decode cX9_run 15 = .ok (.aload_n 0, 1) := by decide +kernel
theorem dX9_run_16 : decode cX9_run 16 = .ok (.getfield 194, 3) := by decide +kernel
theorem dX9_run_19 : decode cX9_run 19 = .ok (.aload_n 0, 1) := by decide +kernel
theorem dX9_run_20 : decode cX9_run 20 = .ok (.getfield 191, 3) := by decide +kernel
theorem dX9_run_23 : decode cX9_run 23 = .ok (.if_icmp .ge 73, 3) := by decide +kernel
theorem dX9_run_26 : decode cX9_run 26 = .ok (.aload_n 0, 1) := by decide +kernel
theorem dX9_run_27 : decode cX9_run 27 = .ok (.invokevirtual 268, 3) := by decide +kernel
theorem dX9_run_30 : decode cX9_run 30 = .ok (.lstore_n 2, 1) := by decide +kernel
theorem dX9_run_31 : decode cX9_run 31 = .ok (.aload_n 0, 1) := by decide +kernel
theorem dX9_run_32 : decode cX9_run 32 = .ok (.getfield 221, 3) := by decide +kernel
theorem dX9_run_35 : decode cX9_run 35 = .ok (.ifCond .eq 16, 3) := by decide +kernel
theorem dX9_run_38 : decode cX9_run 38 = .ok (.aload_n 0, 1) := by decide +kernel
theorem dX9_run_39 : decode cX9_run 39 = .ok (.iconst 1, 1) := by decide +kernel
theorem dX9_run_40 : decode cX9_run 40 = .ok (.aload_n 0, 1) := by decide +kernel
theorem dX9_run_41 : decode cX9_run 41 = .ok (.getfield 208, 3) := by decide +kernel
theorem dX9_run_44 : decode cX9_run 44 = .ok (.iload_n 1, 1) := by decide +kernel
theorem dX9_run_45 : decode cX9_run 45 = .ok (.bipush (-9), 2) := by decide +kernel
theorem dX9_run_47 : decode cX9_run 47 = .ok (.invokevirtual 271, 3) := by decide +kernel
theorem dX9_run_50 : decode cX9_run 50 = .ok (.ireturn, 1) := by decide +kernel
theorem dX9_run_51 : decode cX9_run 51 = .ok (.aload_n 0, 1) := by decide +kernel
theorem dX9_run_52 : decode cX9_run 52 = .ok (.lload_n 2, 1) := by decide +kernel
theorem dX9_run_53 : decode cX9_run 53 = .ok (.invokevirtual 275, 3) := by decide +kernel
theorem dX9_run_56 : decode cX9_run 56 = .ok (.istore 4, 2) := by decide +kernel
theorem dX9_run_58 : decode cX9_run 58 = .ok (.iload 4, 2) := by decide +kernel
theorem dX9_run_60 : decode cX9_run 60 = .ok (.i2l, 1) := by decide +kernel
theorem dX9_run_61 : decode cX9_run 61 = .ok (.ldc2_w 50, 3) := by decide +kernel
theorem dX9_run_64 : decode cX9_run 64 = .ok (.ldc2_w 52, 3) := by decide +kernel
theorem dX9_run_67 : decode cX9_run 67 = .ok (.invokestatic 32, 3) := by decide +kernel
theorem dX9_run_70 : decode cX9_run 70 = .ok (.ifCond .eq 16, 3) := by decide +kernel
theorem dX9_run_73 : decode cX9_run 73 = .ok (.aload_n 0, 1) := by decide +kernel
theorem dX9_run_74 : decode cX9_run 74 = .ok (.iconst 2, 1) := by decide +kernel
theorem dX9_run_75 : decode cX9_run 75 = .ok (.aload_n 0, 1) := by decide +kernel
theorem dX9_run_76 : decode cX9_run 76 = .ok (.getfield 232, 3) := by decide +kernel
theorem dX9_run_79 : decode cX9_run 79 = .ok (.iload_n 1, 1) := by decide +kernel
theorem dX9_run_80 : decode cX9_run 80 = .ok (.iload 4, 2) := by decide +kernel
theorem dX9_run_82 : decode cX9_run 82 = .ok (.invokevirtual 271, 3) := by decide +kernel
theorem dX9_run_85 : decode cX9_run 85 = .ok (.ireturn, 1) := by decide +kernel
theorem dX9_run_86 : decode cX9_run 86 = .ok (.iinc 1 1, 3) := by decide +kernel
theorem dX9_run_89 : decode cX9_run 89 = .ok (.aload_n 0, 1) := by decide +kernel
theorem dX9_run_90 : decode cX9_run 90 = .ok (.invokevirtual 211, 3) := by decide +kernel
theorem dX9_run_93 : decode cX9_run 93 = .ok (.goto (-78), 3) := by decide +kernel
theorem dX9_run_96 : decode cX9_run 96 = .ok (.aload_n 0, 1) := by decide +kernel
theorem dX9_run_97 : decode cX9_run 97 = .ok (.iconst 0, 1) := by decide +kernel
theorem dX9_run_98 : decode cX9_run 98 = .ok (.putfield 191, 3) := by decide +kernel
theorem dX9_run_101 : decode cX9_run 101 = .ok (.aload_n 0, 1) := by decide +kernel
theorem dX9_run_102 : decode cX9_run 102 = .ok (.iload_n 1, 1) := by decide +kernel
theorem dX9_run_103 : decode cX9_run 103 = .ok (.invokevirtual 162, 3) := by decide +kernel
theorem dX9_run_106 : decode cX9_run 106 = .ok (.ireturn, 1) := by decide +kernel
theorem dX9_failure_0 : decode cX9_failure 0 = .ok (.iload_n 1, 1) := by decide +kernel
theorem dX9_failure_1 : decode cX9_failure 1 = .ok (.i2l, 1) := by decide +kernel
theorem dX9_failure_2 : decode cX9_failure 2 = .ok (.lconst 0, 1) := by decide +kernel
theorem dX9_failure_3 : decode cX9_failure 3 = .ok (.ldc2_w 278, 3) := by decide +kernel
theorem dX9_failure_6 : decode cX9_failure 6 = .ok (.invokestatic 32, 3) := by decide +kernel
theorem dX9_failure_9 : decode cX9_failure 9 = .ok (.ifCond .ne 5, 3) := by decide +kernel
theorem dX9_failure_12 : decode cX9_failure 12 = .ok (.iconst (-1), 1) := by decide +kernel
theorem dX9_failure_13 : decode cX9_failure 13 = .ok (.ireturn, 1) := by decide +kernel
theorem dX9_failure_14 : decode cX9_failure 14 = .ok (.aload_n 0, 1) := by decide +kernel
theorem dX9_failure_15 : decode cX9_failure 15 = .ok (.getfield 256, 3) := by decide +kernel
theorem dX9_failure_18 : decode cX9_failure 18 = .ok (.ifCond .ne 6, 3) := by decide +kernel
theorem dX9_failure_21 : decode cX9_failure 21 = .ok (.bipush (-9), 2) := by decide +kernel
theorem dX9_failure_23 : decode cX9_failure 23 = .ok (.ireturn, 1) := by decide +kernel
theorem dX9_failure_24 : decode cX9_failure 24 = .ok (.iload_n 1, 1) := by decide +kernel
theorem dX9_failure_25 : decode cX9_failure 25 = .ok (.ifCond .ne 10, 3) := by decide +kernel
theorem dX9_failure_28 : decode cX9_failure 28 = .ok (.aload_n 0, 1) := by decide +kernel
theorem dX9_failure_29 : decode cX9_failure 29 = .ok (.getfield 256, 3) := by decide +kernel
theorem dX9_failure_32 : decode cX9_failure 32 = .ok (.goto 31, 3) := by decide +kernel
theorem dX9_failure_35 : decode cX9_failure 35 = .ok (.iload_n 1, 1) := by decide +kernel
theorem dX9_failure_36 : decode cX9_failure 36 = .ok (.iconst 1, 1) := by decide +kernel
theorem dX9_failure_37 : decode cX9_failure 37 = .ok (.if_icmp .ne 10, 3) := by decide +kernel
theorem dX9_failure_40 : decode cX9_failure 40 = .ok (.aload_n 0, 1) := by decide +kernel
theorem dX9_failure_41 : decode cX9_failure 41 = .ok (.getfield 259, 3) := by decide +kernel
theorem dX9_failure_44 : decode cX9_failure 44 = .ok (.goto 19, 3) := by decide +kernel
theorem dX9_failure_47 : decode cX9_failure 47 = .ok (.iload_n 1, 1) := by decide +kernel
theorem dX9_failure_48 : decode cX9_failure 48 = .ok (.iconst 2, 1) := by decide +kernel
theorem dX9_failure_49 : decode cX9_failure 49 = .ok (.if_icmp .ne 10, 3) := by decide +kernel
theorem dX9_failure_52 : decode cX9_failure 52 = .ok (.aload_n 0, 1) := by decide +kernel
theorem dX9_failure_53 : decode cX9_failure 53 = .ok (.getfield 262, 3) := by decide +kernel
theorem dX9_failure_56 : decode cX9_failure 56 = .ok (.goto 7, 3) := by decide +kernel
theorem dX9_failure_59 : decode cX9_failure 59 = .ok (.aload_n 0, 1) := by decide +kernel
theorem dX9_failure_60 : decode cX9_failure 60 = .ok (.getfield 265, 3) := by decide +kernel
theorem dX9_failure_63 : decode cX9_failure 63 = .ok (.ireturn, 1) := by decide +kernel
theorem dX9_streaks_0 : decode cX9_streaks 0 = .ok (.iconst 0, 1) := by decide +kernel
theorem dX9_streaks_1 : decode cX9_streaks 1 = .ok (.istore_n 1, 1) := by decide +kernel
theorem dX9_streaks_2 : decode cX9_streaks 2 = .ok (.iconst 0, 1) := by decide +kernel
theorem dX9_streaks_3 : decode cX9_streaks 3 = .ok (.istore_n 2, 1) := by decide +kernel
theorem dX9_streaks_4 : decode cX9_streaks 4 = .ok (.iload_n 2, 1) := by decide +kernel
theorem dX9_streaks_5 : decode cX9_streaks 5 = .ok (.i2l, 1) := by decide +kernel
theorem dX9_streaks_6 : decode cX9_streaks 6 = .ok (.ldc2_w 280, 3) := by decide +kernel
theorem dX9_streaks_9 : decode cX9_streaks 9 = .ok (.aload_n 0, 1) := by decide +kernel
theorem dX9_streaks_10 : decode cX9_streaks 10 = .ok (.getfield 7, 3) := by decide +kernel
theorem dX9_streaks_13 : decode cX9_streaks 13 = .ok (.iconst 0, 1) := by decide +kernel
theorem dX9_streaks_14 : decode cX9_streaks 14 = .ok (.laload, 1) := by decide +kernel
theorem dX9_streaks_15 : decode cX9_streaks 15 = .ok (.lmul, 1) := by decide +kernel
theorem dX9_streaks_16 : decode cX9_streaks 16 = .ok (.lcmp, 1) := by decide +kernel
theorem dX9_streaks_17 : decode cX9_streaks 17 = .ok (.ifCond .ge 76, 3) := by decide +kernel
theorem dX9_streaks_20 : decode cX9_streaks 20 = .ok (.iload_n 2, 1) := by decide +kernel
theorem dX9_streaks_21 : decode cX9_streaks 21 = .ok (.bipush 12, 2) := by decide +kernel
theorem dX9_streaks_23 : decode cX9_streaks 23 = .ok (.idiv, 1) := by decide +kernel
theorem dX9_streaks_24 : decode cX9_streaks 24 = .ok (.istore_n 3, 1) := by decide +kernel
theorem dX9_streaks_25 : decode cX9_streaks 25 = .ok (.iload_n 2, 1) := by decide +kernel
theorem dX9_streaks_26 : decode cX9_streaks 26 = .ok (.bipush 12, 2) := by decide +kernel
theorem dX9_streaks_28 : decode cX9_streaks 28 = .ok (.irem, 1) := by decide +kernel
theorem dX9_streaks_29 : decode cX9_streaks 29 = .ok (.istore 4, 2) := by decide +kernel
theorem dX9_streaks_31 : decode cX9_streaks 31 = .ok (.aload_n 0, 1) := by decide +kernel
theorem dX9_streaks_32 : decode cX9_streaks 32 = .ok (.iload_n 3, 1) := by decide +kernel
theorem dX9_streaks_33 : decode cX9_streaks 33 = .ok (.iload 4, 2) := by decide +kernel
theorem dX9_streaks_35 : decode cX9_streaks 35 = .ok (.invokevirtual 58, 3) := by decide +kernel
theorem dX9_streaks_38 : decode cX9_streaks 38 = .ok (.ifCond .le 19, 3) := by decide +kernel
theorem dX9_streaks_41 : decode cX9_streaks 41 = .ok (.aload_n 0, 1) := by decide +kernel
theorem dX9_streaks_42 : decode cX9_streaks 42 = .ok (.iload_n 3, 1) := by decide +kernel
theorem dX9_streaks_43 : decode cX9_streaks 43 = .ok (.iload 4, 2) := by decide +kernel
theorem dX9_streaks_45 : decode cX9_streaks 45 = .ok (.iconst (-1), 1) := by decide +kernel
theorem dX9_streaks_46 : decode cX9_streaks 46 = .ok (.invokevirtual 68, 3) := by decide +kernel
theorem dX9_streaks_49 : decode cX9_streaks 49 = .ok (.iload_n 3, 1) := by decide +kernel
theorem dX9_streaks_50 : decode cX9_streaks 50 = .ok (.if_icmp .ne 7, 3) := by decide +kernel
theorem dX9_streaks_53 : decode cX9_streaks 53 = .ok (.iconst 1, 1) := by decide +kernel
theorem dX9_streaks_54 : decode cX9_streaks 54 = .ok (.goto 4, 3) := by decide +kernel
theorem dX9_streaks_57 : decode cX9_streaks 57 = .ok (.iconst 0, 1) := by decide +kernel
theorem dX9_streaks_58 : decode cX9_streaks 58 = .ok (.istore 5, 2) := by decide +kernel
theorem dX9_streaks_60 : decode cX9_streaks 60 = .ok (.iload_n 1, 1) := by decide +kernel
theorem dX9_streaks_61 : decode cX9_streaks 61 = .ok (.iload 5, 2) := by decide +kernel
theorem dX9_streaks_63 : decode cX9_streaks 63 = .ok (.ifCond .eq 21, 3) := by decide +kernel
theorem dX9_streaks_66 : decode cX9_streaks 66 = .ok (.aload_n 0, 1) := by decide +kernel
theorem dX9_streaks_67 : decode cX9_streaks 67 = .ok (.iload_n 3, 1) := by decide +kernel
theorem dX9_streaks_68 : decode cX9_streaks 68 = .ok (.iload 4, 2) := by decide +kernel
theorem dX9_streaks_70 : decode cX9_streaks 70 = .ok (.invokevirtual 76, 3) := by decide +kernel
theorem dX9_streaks_73 : decode cX9_streaks 73 = .ok (.aload_n 0, 1) := by decide +kernel
theorem dX9_streaks_74 : decode cX9_streaks 74 = .ok (.invokevirtual 107, 3) := by decide +kernel
theorem dX9_streaks_77 : decode cX9_streaks 77 = .ok (.if_icmp .lt 7, 3) := by decide +kernel
theorem dX9_streaks_80 : decode cX9_streaks 80 = .ok (.iconst 1, 1) := by decide +kernel
theorem dX9_streaks_81 : decode cX9_streaks 81 = .ok (.goto 4, 3) := by decide +kernel
theorem dX9_streaks_84 : decode cX9_streaks 84 = .ok (.iconst 0, 1) := by decide +kernel
theorem dX9_streaks_85 : decode cX9_streaks 85 = .ok (.iadd, 1) := by decide +kernel
theorem dX9_streaks_86 : decode cX9_streaks 86 = .ok (.istore_n 1, 1) := by decide +kernel
theorem dX9_streaks_87 : decode cX9_streaks 87 = .ok (.iinc 2 1, 3) := by decide +kernel
theorem dX9_streaks_90 : decode cX9_streaks 90 = .ok (.goto (-86), 3) := by decide +kernel
theorem dX9_streaks_93 : decode cX9_streaks 93 = .ok (.iload_n 1, 1) := by decide +kernel
theorem dX9_streaks_94 : decode cX9_streaks 94 = .ok (.ireturn, 1) := by decide +kernel
theorem dX9_count_0 : decode cX9_count 0 = .ok (.iload_n 1, 1) := by decide +kernel
theorem dX9_count_1 : decode cX9_count 1 = .ok (.tableswitch 140 0 10 #[59, 67, 73, 79, 84, 92, 98, 104, 109, 130, 135], 59) := by decide +kernel
theorem dX9_count_60 : decode cX9_count 60 = .ok (.aload_n 0, 1) := by decide +kernel
theorem dX9_count_61 : decode cX9_count 61 = .ok (.getfield 7, 3) := by decide +kernel
theorem dX9_count_64 : decode cX9_count 64 = .ok (.iconst 0, 1) := by decide +kernel
theorem dX9_count_65 : decode cX9_count 65 = .ok (.laload, 1) := by decide +kernel
theorem dX9_count_66 : decode cX9_count 66 = .ok (.l2i, 1) := by decide +kernel
theorem dX9_count_67 : decode cX9_count 67 = .ok (.ireturn, 1) := by decide +kernel
theorem dX9_count_68 : decode cX9_count 68 = .ok (.aload_n 0, 1) := by decide +kernel
theorem dX9_count_69 : decode cX9_count 69 = .ok (.iconst 2, 1) := by decide +kernel
theorem dX9_count_70 : decode cX9_count 70 = .ok (.invokevirtual 153, 3) := by decide +kernel
theorem dX9_count_73 : decode cX9_count 73 = .ok (.ireturn, 1) := by decide +kernel
theorem dX9_count_74 : decode cX9_count 74 = .ok (.aload_n 0, 1) := by decide +kernel
theorem dX9_count_75 : decode cX9_count 75 = .ok (.iconst 1, 1) := by decide +kernel
theorem dX9_count_76 : decode cX9_count 76 = .ok (.invokevirtual 153, 3) := by decide +kernel
theorem dX9_count_79 : decode cX9_count 79 = .ok (.ireturn, 1) := by decide +kernel
theorem dX9_count_80 : decode cX9_count 80 = .ok (.aload_n 0, 1) := by decide +kernel
theorem dX9_count_81 : decode cX9_count 81 = .ok (.invokevirtual 144, 3) := by decide +kernel
theorem dX9_count_84 : decode cX9_count 84 = .ok (.ireturn, 1) := by decide +kernel
theorem dX9_count_85 : decode cX9_count 85 = .ok (.aload_n 0, 1) := by decide +kernel
theorem dX9_count_86 : decode cX9_count 86 = .ok (.getfield 7, 3) := by decide +kernel
theorem dX9_count_89 : decode cX9_count 89 = .ok (.iconst 1, 1) := by decide +kernel
theorem dX9_count_90 : decode cX9_count 90 = .ok (.laload, 1) := by decide +kernel
theorem dX9_count_91 : decode cX9_count 91 = .ok (.l2i, 1) := by decide +kernel
theorem dX9_count_92 : decode cX9_count 92 = .ok (.ireturn, 1) := by decide +kernel
theorem dX9_count_93 : decode cX9_count 93 = .ok (.aload_n 0, 1) := by decide +kernel
theorem dX9_count_94 : decode cX9_count 94 = .ok (.iconst 0, 1) := by decide +kernel
theorem dX9_count_95 : decode cX9_count 95 = .ok (.invokevirtual 138, 3) := by decide +kernel
theorem dX9_count_98 : decode cX9_count 98 = .ok (.ireturn, 1) := by decide +kernel
theorem dX9_count_99 : decode cX9_count 99 = .ok (.aload_n 0, 1) := by decide +kernel
theorem dX9_count_100 : decode cX9_count 100 = .ok (.iconst 1, 1) := by decide +kernel
theorem dX9_count_101 : decode cX9_count 101 = .ok (.invokevirtual 138, 3) := by decide +kernel
theorem dX9_count_104 : decode cX9_count 104 = .ok (.ireturn, 1) := by decide +kernel
theorem dX9_count_105 : decode cX9_count 105 = .ok (.aload_n 0, 1) := by decide +kernel
theorem dX9_count_106 : decode cX9_count 106 = .ok (.invokevirtual 282, 3) := by decide +kernel
theorem dX9_count_109 : decode cX9_count 109 = .ok (.ireturn, 1) := by decide +kernel
theorem dX9_count_110 : decode cX9_count 110 = .ok (.aload_n 0, 1) := by decide +kernel
theorem dX9_count_111 : decode cX9_count 111 = .ok (.getfield 7, 3) := by decide +kernel
theorem dX9_count_114 : decode cX9_count 114 = .ok (.iconst 0, 1) := by decide +kernel
theorem dX9_count_115 : decode cX9_count 115 = .ok (.invokestatic 186, 3) := by decide +kernel
theorem dX9_count_118 : decode cX9_count 118 = .ok (.laload, 1) := by decide +kernel
theorem dX9_count_119 : decode cX9_count 119 = .ok (.aload_n 0, 1) := by decide +kernel
theorem dX9_count_120 : decode cX9_count 120 = .ok (.getfield 7, 3) := by decide +kernel
theorem dX9_count_123 : decode cX9_count 123 = .ok (.iconst 1, 1) := by decide +kernel
theorem dX9_count_124 : decode cX9_count 124 = .ok (.invokestatic 186, 3) := by decide +kernel
theorem dX9_count_127 : decode cX9_count 127 = .ok (.laload, 1) := by decide +kernel
theorem dX9_count_128 : decode cX9_count 128 = .ok (.ladd, 1) := by decide +kernel
theorem dX9_count_129 : decode cX9_count 129 = .ok (.l2i, 1) := by decide +kernel
theorem dX9_count_130 : decode cX9_count 130 = .ok (.ireturn, 1) := by decide +kernel
theorem dX9_count_131 : decode cX9_count 131 = .ok (.aload_n 0, 1) := by decide +kernel
theorem dX9_count_132 : decode cX9_count 132 = .ok (.getfield 54, 3) := by decide +kernel
theorem dX9_count_135 : decode cX9_count 135 = .ok (.ireturn, 1) := by decide +kernel
theorem dX9_count_136 : decode cX9_count 136 = .ok (.aload_n 0, 1) := by decide +kernel
theorem dX9_count_137 : decode cX9_count 137 = .ok (.getfield 191, 3) := by decide +kernel
theorem dX9_count_140 : decode cX9_count 140 = .ok (.ireturn, 1) := by decide +kernel
theorem dX9_count_141 : decode cX9_count 141 = .ok (.iload_n 1, 1) := by decide +kernel
theorem dX9_count_142 : decode cX9_count 142 = .ok (.i2l, 1) := by decide +kernel
theorem dX9_count_143 : decode cX9_count 143 = .ok (.ldc2_w 285, 3) := by decide +kernel
theorem dX9_count_146 : decode cX9_count 146 = .ok (.ldc2_w 287, 3) := by decide +kernel
theorem dX9_count_149 : decode cX9_count 149 = .ok (.invokestatic 32, 3) := by decide +kernel
theorem dX9_count_152 : decode cX9_count 152 = .ok (.ifCond .eq 18, 3) := by decide +kernel
theorem dX9_count_155 : decode cX9_count 155 = .ok (.aload_n 0, 1) := by decide +kernel
theorem dX9_count_156 : decode cX9_count 156 = .ok (.getfield 7, 3) := by decide +kernel
theorem dX9_count_159 : decode cX9_count 159 = .ok (.iconst 2, 1) := by decide +kernel
theorem dX9_count_160 : decode cX9_count 160 = .ok (.iload_n 1, 1) := by decide +kernel
theorem dX9_count_161 : decode cX9_count 161 = .ok (.iadd, 1) := by decide +kernel
theorem dX9_count_162 : decode cX9_count 162 = .ok (.bipush 11, 2) := by decide +kernel
theorem dX9_count_164 : decode cX9_count 164 = .ok (.isub, 1) := by decide +kernel
theorem dX9_count_165 : decode cX9_count 165 = .ok (.laload, 1) := by decide +kernel
theorem dX9_count_166 : decode cX9_count 166 = .ok (.l2i, 1) := by decide +kernel
theorem dX9_count_167 : decode cX9_count 167 = .ok (.goto 4, 3) := by decide +kernel
theorem dX9_count_170 : decode cX9_count 170 = .ok (.iconst (-1), 1) := by decide +kernel
theorem dX9_count_171 : decode cX9_count 171 = .ok (.ireturn, 1) := by decide +kernel
theorem dX9_placeOf_0 : decode cX9_placeOf 0 = .ok (.iconst 0, 1) := by decide +kernel
theorem dX9_placeOf_1 : decode cX9_placeOf 1 = .ok (.istore_n 2, 1) := by decide +kernel
theorem dX9_placeOf_2 : decode cX9_placeOf 2 = .ok (.iconst 0, 1) := by decide +kernel
theorem dX9_placeOf_3 : decode cX9_placeOf 3 = .ok (.istore_n 3, 1) := by decide +kernel
theorem dX9_placeOf_4 : decode cX9_placeOf 4 = .ok (.iload_n 3, 1) := by decide +kernel
theorem dX9_placeOf_5 : decode cX9_placeOf 5 = .ok (.iload_n 1, 1) := by decide +kernel
theorem dX9_placeOf_6 : decode cX9_placeOf 6 = .ok (.if_icmp .ge 41, 3) := by decide +kernel
theorem dX9_placeOf_9 : decode cX9_placeOf 9 = .ok (.iload_n 2, 1) := by decide +kernel
theorem dX9_placeOf_10 : decode cX9_placeOf 10 = .ok (.aload_n 0, 1) := by decide +kernel
theorem dX9_placeOf_11 : decode cX9_placeOf 11 = .ok (.getfield 7, 3) := by decide +kernel
theorem dX9_placeOf_14 : decode cX9_placeOf 14 = .ok (.iload_n 3, 1) := by decide +kernel
theorem dX9_placeOf_15 : decode cX9_placeOf 15 = .ok (.iconst 0, 1) := by decide +kernel
theorem dX9_placeOf_16 : decode cX9_placeOf 16 = .ok (.invokestatic 40, 3) := by decide +kernel
theorem dX9_placeOf_19 : decode cX9_placeOf 19 = .ok (.laload, 1) := by decide +kernel
theorem dX9_placeOf_20 : decode cX9_placeOf 20 = .ok (.aload_n 0, 1) := by decide +kernel
theorem dX9_placeOf_21 : decode cX9_placeOf 21 = .ok (.getfield 7, 3) := by decide +kernel
theorem dX9_placeOf_24 : decode cX9_placeOf 24 = .ok (.iload_n 1, 1) := by decide +kernel
theorem dX9_placeOf_25 : decode cX9_placeOf 25 = .ok (.iconst 0, 1) := by decide +kernel
theorem dX9_placeOf_26 : decode cX9_placeOf 26 = .ok (.invokestatic 40, 3) := by decide +kernel
theorem dX9_placeOf_29 : decode cX9_placeOf 29 = .ok (.laload, 1) := by decide +kernel
theorem dX9_placeOf_30 : decode cX9_placeOf 30 = .ok (.lcmp, 1) := by decide +kernel
theorem dX9_placeOf_31 : decode cX9_placeOf 31 = .ok (.ifCond .ne 7, 3) := by decide +kernel
theorem dX9_placeOf_34 : decode cX9_placeOf 34 = .ok (.iconst 1, 1) := by decide +kernel
theorem dX9_placeOf_35 : decode cX9_placeOf 35 = .ok (.goto 4, 3) := by decide +kernel
theorem dX9_placeOf_38 : decode cX9_placeOf 38 = .ok (.iconst 0, 1) := by decide +kernel
theorem dX9_placeOf_39 : decode cX9_placeOf 39 = .ok (.iadd, 1) := by decide +kernel
theorem dX9_placeOf_40 : decode cX9_placeOf 40 = .ok (.istore_n 2, 1) := by decide +kernel
theorem dX9_placeOf_41 : decode cX9_placeOf 41 = .ok (.iinc 3 1, 3) := by decide +kernel
theorem dX9_placeOf_44 : decode cX9_placeOf 44 = .ok (.goto (-40), 3) := by decide +kernel
theorem dX9_placeOf_47 : decode cX9_placeOf 47 = .ok (.iload_n 2, 1) := by decide +kernel
theorem dX9_placeOf_48 : decode cX9_placeOf 48 = .ok (.ireturn, 1) := by decide +kernel
theorem dX9_card_0 : decode cX9_card 0 = .ok (.aload_n 0, 1) := by decide +kernel
theorem dX9_card_1 : decode cX9_card 1 = .ok (.iload_n 1, 1) := by decide +kernel
theorem dX9_card_2 : decode cX9_card 2 = .ok (.invokevirtual 289, 3) := by decide +kernel
theorem dX9_card_5 : decode cX9_card 5 = .ok (.ifCond .ne 5, 3) := by decide +kernel
theorem dX9_card_8 : decode cX9_card 8 = .ok (.iconst (-1), 1) := by decide +kernel
theorem dX9_card_9 : decode cX9_card 9 = .ok (.ireturn, 1) := by decide +kernel
theorem dX9_card_10 : decode cX9_card 10 = .ok (.iload_n 2, 1) := by decide +kernel
theorem dX9_card_11 : decode cX9_card 11 = .ok (.tableswitch 99 0 5 #[37, 49, 55, 67, 79, 85], 37) := by decide +kernel
theorem dX9_card_48 : decode cX9_card 48 = .ok (.aload_n 0, 1) := by decide +kernel
theorem dX9_card_49 : decode cX9_card 49 = .ok (.getfield 7, 3) := by decide +kernel
theorem dX9_card_52 : decode cX9_card 52 = .ok (.iload_n 1, 1) := by decide +kernel
theorem dX9_card_53 : decode cX9_card 53 = .ok (.iconst 0, 1) := by decide +kernel
theorem dX9_card_54 : decode cX9_card 54 = .ok (.invokestatic 40, 3) := by decide +kernel
theorem dX9_card_57 : decode cX9_card 57 = .ok (.laload, 1) := by decide +kernel
theorem dX9_card_58 : decode cX9_card 58 = .ok (.l2i, 1) := by decide +kernel
theorem dX9_card_59 : decode cX9_card 59 = .ok (.ireturn, 1) := by decide +kernel
theorem dX9_card_60 : decode cX9_card 60 = .ok (.aload_n 0, 1) := by decide +kernel
theorem dX9_card_61 : decode cX9_card 61 = .ok (.iload_n 1, 1) := by decide +kernel
theorem dX9_card_62 : decode cX9_card 62 = .ok (.invokevirtual 292, 3) := by decide +kernel
theorem dX9_card_65 : decode cX9_card 65 = .ok (.ireturn, 1) := by decide +kernel
theorem dX9_card_66 : decode cX9_card 66 = .ok (.aload_n 0, 1) := by decide +kernel
theorem dX9_card_67 : decode cX9_card 67 = .ok (.getfield 7, 3) := by decide +kernel
theorem dX9_card_70 : decode cX9_card 70 = .ok (.iload_n 1, 1) := by decide +kernel
theorem dX9_card_71 : decode cX9_card 71 = .ok (.iconst 2, 1) := by decide +kernel
theorem dX9_card_72 : decode cX9_card 72 = .ok (.invokestatic 40, 3) := by decide +kernel
theorem dX9_card_75 : decode cX9_card 75 = .ok (.laload, 1) := by decide +kernel
theorem dX9_card_76 : decode cX9_card 76 = .ok (.l2i, 1) := by decide +kernel
theorem dX9_card_77 : decode cX9_card 77 = .ok (.ireturn, 1) := by decide +kernel
theorem dX9_card_78 : decode cX9_card 78 = .ok (.aload_n 0, 1) := by decide +kernel
theorem dX9_card_79 : decode cX9_card 79 = .ok (.getfield 7, 3) := by decide +kernel
theorem dX9_card_82 : decode cX9_card 82 = .ok (.iload_n 1, 1) := by decide +kernel
theorem dX9_card_83 : decode cX9_card 83 = .ok (.iconst 3, 1) := by decide +kernel
theorem dX9_card_84 : decode cX9_card 84 = .ok (.invokestatic 40, 3) := by decide +kernel
theorem dX9_card_87 : decode cX9_card 87 = .ok (.laload, 1) := by decide +kernel
theorem dX9_card_88 : decode cX9_card 88 = .ok (.l2i, 1) := by decide +kernel
theorem dX9_card_89 : decode cX9_card 89 = .ok (.ireturn, 1) := by decide +kernel
theorem dX9_card_90 : decode cX9_card 90 = .ok (.aload_n 0, 1) := by decide +kernel
theorem dX9_card_91 : decode cX9_card 91 = .ok (.iload_n 1, 1) := by decide +kernel
theorem dX9_card_92 : decode cX9_card 92 = .ok (.invokevirtual 119, 3) := by decide +kernel
theorem dX9_card_95 : decode cX9_card 95 = .ok (.ireturn, 1) := by decide +kernel
theorem dX9_card_96 : decode cX9_card 96 = .ok (.aload_n 0, 1) := by decide +kernel
theorem dX9_card_97 : decode cX9_card 97 = .ok (.iload_n 1, 1) := by decide +kernel
theorem dX9_card_98 : decode cX9_card 98 = .ok (.invokevirtual 126, 3) := by decide +kernel
theorem dX9_card_101 : decode cX9_card 101 = .ok (.ifCond .eq 7, 3) := by decide +kernel
theorem dX9_card_104 : decode cX9_card 104 = .ok (.iconst 1, 1) := by decide +kernel
theorem dX9_card_105 : decode cX9_card 105 = .ok (.goto 4, 3) := by decide +kernel
theorem dX9_card_108 : decode cX9_card 108 = .ok (.iconst 0, 1) := by decide +kernel
theorem dX9_card_109 : decode cX9_card 109 = .ok (.ireturn, 1) := by decide +kernel
theorem dX9_card_110 : decode cX9_card 110 = .ok (.iconst (-1), 1) := by decide +kernel
theorem dX9_card_111 : decode cX9_card 111 = .ok (.ireturn, 1) := by decide +kernel
theorem dX9_isPlace_0 : decode cX9_isPlace 0 = .ok (.iload_n 0, 1) := by decide +kernel
theorem dX9_isPlace_1 : decode cX9_isPlace 1 = .ok (.i2l, 1) := by decide +kernel
theorem dX9_isPlace_2 : decode cX9_isPlace 2 = .ok (.lconst 0, 1) := by decide +kernel
theorem dX9_isPlace_3 : decode cX9_isPlace 3 = .ok (.ldc2_w 285, 3) := by decide +kernel
theorem dX9_isPlace_6 : decode cX9_isPlace 6 = .ok (.invokestatic 32, 3) := by decide +kernel
theorem dX9_isPlace_9 : decode cX9_isPlace 9 = .ok (.ireturn, 1) := by decide +kernel
theorem dX9_place_0 : decode cX9_place 0 = .ok (.aload_n 0, 1) := by decide +kernel
theorem dX9_place_1 : decode cX9_place 1 = .ok (.iload_n 1, 1) := by decide +kernel
theorem dX9_place_2 : decode cX9_place 2 = .ok (.invokevirtual 289, 3) := by decide +kernel
theorem dX9_place_5 : decode cX9_place 5 = .ok (.ifCond .eq 10, 3) := by decide +kernel
theorem dX9_place_8 : decode cX9_place 8 = .ok (.iload_n 2, 1) := by decide +kernel
theorem dX9_place_9 : decode cX9_place 9 = .ok (.invokestatic 295, 3) := by decide +kernel
theorem dX9_place_12 : decode cX9_place 12 = .ok (.ifCond .ne 5, 3) := by decide +kernel
theorem dX9_place_15 : decode cX9_place 15 = .ok (.iconst (-1), 1) := by decide +kernel
theorem dX9_place_16 : decode cX9_place 16 = .ok (.ireturn, 1) := by decide +kernel
theorem dX9_place_17 : decode cX9_place 17 = .ok (.iload_n 3, 1) := by decide +kernel
theorem dX9_place_18 : decode cX9_place 18 = .ok (.tableswitch 102 0 4 #[34, 41, 52, 80, 91], 34) := by decide +kernel
theorem dX9_place_52 : decode cX9_place 52 = .ok (.aload_n 0, 1) := by decide +kernel
theorem dX9_place_53 : decode cX9_place 53 = .ok (.iload_n 1, 1) := by decide +kernel
theorem dX9_place_54 : decode cX9_place 54 = .ok (.iload_n 2, 1) := by decide +kernel
theorem dX9_place_55 : decode cX9_place 55 = .ok (.invokevirtual 58, 3) := by decide +kernel
theorem dX9_place_58 : decode cX9_place 58 = .ok (.ireturn, 1) := by decide +kernel
theorem dX9_place_59 : decode cX9_place 59 = .ok (.aload_n 0, 1) := by decide +kernel
theorem dX9_place_60 : decode cX9_place 60 = .ok (.iload_n 1, 1) := by decide +kernel
theorem dX9_place_61 : decode cX9_place 61 = .ok (.iload_n 2, 1) := by decide +kernel
theorem dX9_place_62 : decode cX9_place 62 = .ok (.aload_n 0, 1) := by decide +kernel
theorem dX9_place_63 : decode cX9_place 63 = .ok (.invokevirtual 107, 3) := by decide +kernel
theorem dX9_place_66 : decode cX9_place 66 = .ok (.invokevirtual 85, 3) := by decide +kernel
theorem dX9_place_69 : decode cX9_place 69 = .ok (.ireturn, 1) := by decide +kernel
theorem dX9_place_70 : decode cX9_place 70 = .ok (.aload_n 0, 1) := by decide +kernel
theorem dX9_place_71 : decode cX9_place 71 = .ok (.iload_n 1, 1) := by decide +kernel
theorem dX9_place_72 : decode cX9_place 72 = .ok (.invokevirtual 72, 3) := by decide +kernel
theorem dX9_place_75 : decode cX9_place 75 = .ok (.ifCond .eq 20, 3) := by decide +kernel
theorem dX9_place_78 : decode cX9_place 78 = .ok (.aload_n 0, 1) := by decide +kernel
theorem dX9_place_79 : decode cX9_place 79 = .ok (.getfield 7, 3) := by decide +kernel
theorem dX9_place_82 : decode cX9_place 82 = .ok (.iload_n 1, 1) := by decide +kernel
theorem dX9_place_83 : decode cX9_place 83 = .ok (.iconst 4, 1) := by decide +kernel
theorem dX9_place_84 : decode cX9_place 84 = .ok (.invokestatic 40, 3) := by decide +kernel
theorem dX9_place_87 : decode cX9_place 87 = .ok (.laload, 1) := by decide +kernel
theorem dX9_place_88 : decode cX9_place 88 = .ok (.iload_n 2, 1) := by decide +kernel
theorem dX9_place_89 : decode cX9_place 89 = .ok (.invokestatic 44, 3) := by decide +kernel
theorem dX9_place_92 : decode cX9_place 92 = .ok (.goto 5, 3) := by decide +kernel
theorem dX9_place_95 : decode cX9_place 95 = .ok (.bipush (-9), 2) := by decide +kernel
theorem dX9_place_97 : decode cX9_place 97 = .ok (.ireturn, 1) := by decide +kernel
theorem dX9_place_98 : decode cX9_place 98 = .ok (.aload_n 0, 1) := by decide +kernel
theorem dX9_place_99 : decode cX9_place 99 = .ok (.iload_n 1, 1) := by decide +kernel
theorem dX9_place_100 : decode cX9_place 100 = .ok (.iload_n 2, 1) := by decide +kernel
theorem dX9_place_101 : decode cX9_place 101 = .ok (.aload_n 0, 1) := by decide +kernel
theorem dX9_place_102 : decode cX9_place 102 = .ok (.invokevirtual 107, 3) := by decide +kernel
theorem dX9_place_105 : decode cX9_place 105 = .ok (.invokevirtual 88, 3) := by decide +kernel
theorem dX9_place_108 : decode cX9_place 108 = .ok (.ireturn, 1) := by decide +kernel
theorem dX9_place_109 : decode cX9_place 109 = .ok (.aload_n 0, 1) := by decide +kernel
theorem dX9_place_110 : decode cX9_place 110 = .ok (.iload_n 1, 1) := by decide +kernel
theorem dX9_place_111 : decode cX9_place 111 = .ok (.iload_n 2, 1) := by decide +kernel
theorem dX9_place_112 : decode cX9_place 112 = .ok (.aload_n 0, 1) := by decide +kernel
theorem dX9_place_113 : decode cX9_place 113 = .ok (.invokevirtual 107, 3) := by decide +kernel
theorem dX9_place_116 : decode cX9_place 116 = .ok (.invokevirtual 91, 3) := by decide +kernel
theorem dX9_place_119 : decode cX9_place 119 = .ok (.ireturn, 1) := by decide +kernel
theorem dX9_place_120 : decode cX9_place 120 = .ok (.iconst (-1), 1) := by decide +kernel
theorem dX9_place_121 : decode cX9_place 121 = .ok (.ireturn, 1) := by decide +kernel
theorem dX9_runAt_0 : decode cX9_runAt 0 = .ok (.aload_n 0, 1) := by decide +kernel
theorem dX9_runAt_1 : decode cX9_runAt 1 = .ok (.iload_n 1, 1) := by decide +kernel
theorem dX9_runAt_2 : decode cX9_runAt 2 = .ok (.invokevirtual 289, 3) := by decide +kernel
theorem dX9_runAt_5 : decode cX9_runAt 5 = .ok (.ifCond .eq 22, 3) := by decide +kernel
theorem dX9_runAt_8 : decode cX9_runAt 8 = .ok (.iload_n 2, 1) := by decide +kernel
theorem dX9_runAt_9 : decode cX9_runAt 9 = .ok (.invokestatic 295, 3) := by decide +kernel
theorem dX9_runAt_12 : decode cX9_runAt 12 = .ok (.ifCond .eq 15, 3) := by decide +kernel
theorem dX9_runAt_15 : decode cX9_runAt 15 = .ok (.iload_n 3, 1) := by decide +kernel
theorem dX9_runAt_16 : decode cX9_runAt 16 = .ok (.i2l, 1) := by decide +kernel
theorem dX9_runAt_17 : decode cX9_runAt 17 = .ok (.lconst 0, 1) := by decide +kernel
theorem dX9_runAt_18 : decode cX9_runAt 18 = .ok (.ldc2_w 48, 3) := by decide +kernel
theorem dX9_runAt_21 : decode cX9_runAt 21 = .ok (.invokestatic 32, 3) := by decide +kernel
theorem dX9_runAt_24 : decode cX9_runAt 24 = .ok (.ifCond .ne 5, 3) := by decide +kernel
theorem dX9_runAt_27 : decode cX9_runAt 27 = .ok (.iconst (-1), 1) := by decide +kernel
theorem dX9_runAt_28 : decode cX9_runAt 28 = .ok (.ireturn, 1) := by decide +kernel
theorem dX9_runAt_29 : decode cX9_runAt 29 = .ok (.aload_n 0, 1) := by decide +kernel
theorem dX9_runAt_30 : decode cX9_runAt 30 = .ok (.iload_n 1, 1) := by decide +kernel
theorem dX9_runAt_31 : decode cX9_runAt 31 = .ok (.iload_n 2, 1) := by decide +kernel
theorem dX9_runAt_32 : decode cX9_runAt 32 = .ok (.invokevirtual 58, 3) := by decide +kernel
theorem dX9_runAt_35 : decode cX9_runAt 35 = .ok (.ifCond .ne 6, 3) := by decide +kernel
theorem dX9_runAt_38 : decode cX9_runAt 38 = .ok (.bipush (-9), 2) := by decide +kernel
theorem dX9_runAt_40 : decode cX9_runAt 40 = .ok (.ireturn, 1) := by decide +kernel
theorem dX9_runAt_41 : decode cX9_runAt 41 = .ok (.aload_n 0, 1) := by decide +kernel
theorem dX9_runAt_42 : decode cX9_runAt 42 = .ok (.iload_n 1, 1) := by decide +kernel
theorem dX9_runAt_43 : decode cX9_runAt 43 = .ok (.iload_n 2, 1) := by decide +kernel
theorem dX9_runAt_44 : decode cX9_runAt 44 = .ok (.iconst (-1), 1) := by decide +kernel
theorem dX9_runAt_45 : decode cX9_runAt 45 = .ok (.invokevirtual 68, 3) := by decide +kernel
theorem dX9_runAt_48 : decode cX9_runAt 48 = .ok (.istore 4, 2) := by decide +kernel
theorem dX9_runAt_50 : decode cX9_runAt 50 = .ok (.iload_n 3, 1) := by decide +kernel
theorem dX9_runAt_51 : decode cX9_runAt 51 = .ok (.ifCond .ne 8, 3) := by decide +kernel
theorem dX9_runAt_54 : decode cX9_runAt 54 = .ok (.iload 4, 2) := by decide +kernel
theorem dX9_runAt_56 : decode cX9_runAt 56 = .ok (.goto 25, 3) := by decide +kernel
theorem dX9_runAt_59 : decode cX9_runAt 59 = .ok (.iload_n 3, 1) := by decide +kernel
theorem dX9_runAt_60 : decode cX9_runAt 60 = .ok (.iconst 1, 1) := by decide +kernel
theorem dX9_runAt_61 : decode cX9_runAt 61 = .ok (.if_icmp .ne 13, 3) := by decide +kernel
theorem dX9_runAt_64 : decode cX9_runAt 64 = .ok (.aload_n 0, 1) := by decide +kernel
theorem dX9_runAt_65 : decode cX9_runAt 65 = .ok (.iload_n 1, 1) := by decide +kernel
theorem dX9_runAt_66 : decode cX9_runAt 66 = .ok (.iload_n 2, 1) := by decide +kernel
theorem dX9_runAt_67 : decode cX9_runAt 67 = .ok (.iconst 1, 1) := by decide +kernel
theorem dX9_runAt_68 : decode cX9_runAt 68 = .ok (.invokevirtual 68, 3) := by decide +kernel
theorem dX9_runAt_71 : decode cX9_runAt 71 = .ok (.goto 10, 3) := by decide +kernel
theorem dX9_runAt_74 : decode cX9_runAt 74 = .ok (.aload_n 0, 1) := by decide +kernel
theorem dX9_runAt_75 : decode cX9_runAt 75 = .ok (.iload 4, 2) := by decide +kernel
theorem dX9_runAt_77 : decode cX9_runAt 77 = .ok (.iload_n 2, 1) := by decide +kernel
theorem dX9_runAt_78 : decode cX9_runAt 78 = .ok (.invokevirtual 76, 3) := by decide +kernel
theorem dX9_runAt_81 : decode cX9_runAt 81 = .ok (.ireturn, 1) := by decide +kernel
theorem dX9_outcomeOf_0 : decode cX9_outcomeOf 0 = .ok (.iload_n 3, 1) := by decide +kernel
theorem dX9_outcomeOf_1 : decode cX9_outcomeOf 1 = .ok (.ifCond .ge 14, 3) := by decide +kernel
theorem dX9_outcomeOf_4 : decode cX9_outcomeOf 4 = .ok (.aload_n 0, 1) := by decide +kernel
theorem dX9_outcomeOf_5 : decode cX9_outcomeOf 5 = .ok (.iload_n 1, 1) := by decide +kernel
theorem dX9_outcomeOf_6 : decode cX9_outcomeOf 6 = .ok (.iload_n 2, 1) := by decide +kernel
theorem dX9_outcomeOf_7 : decode cX9_outcomeOf 7 = .ok (.aload_n 0, 1) := by decide +kernel
theorem dX9_outcomeOf_8 : decode cX9_outcomeOf 8 = .ok (.invokevirtual 107, 3) := by decide +kernel
theorem dX9_outcomeOf_11 : decode cX9_outcomeOf 11 = .ok (.invokevirtual 96, 3) := by decide +kernel
theorem dX9_outcomeOf_14 : decode cX9_outcomeOf 14 = .ok (.ireturn, 1) := by decide +kernel
theorem dX9_outcomeOf_15 : decode cX9_outcomeOf 15 = .ok (.iload_n 1, 1) := by decide +kernel
theorem dX9_outcomeOf_16 : decode cX9_outcomeOf 16 = .ok (.i2l, 1) := by decide +kernel
theorem dX9_outcomeOf_17 : decode cX9_outcomeOf 17 = .ok (.aload_n 0, 1) := by decide +kernel
theorem dX9_outcomeOf_18 : decode cX9_outcomeOf 18 = .ok (.getfield 7, 3) := by decide +kernel
theorem dX9_outcomeOf_21 : decode cX9_outcomeOf 21 = .ok (.iload_n 3, 1) := by decide +kernel
theorem dX9_outcomeOf_22 : decode cX9_outcomeOf 22 = .ok (.iconst 0, 1) := by decide +kernel
theorem dX9_outcomeOf_23 : decode cX9_outcomeOf 23 = .ok (.invokestatic 104, 3) := by decide +kernel
theorem dX9_outcomeOf_26 : decode cX9_outcomeOf 26 = .ok (.laload, 1) := by decide +kernel
theorem dX9_outcomeOf_27 : decode cX9_outcomeOf 27 = .ok (.lcmp, 1) := by decide +kernel
theorem dX9_outcomeOf_28 : decode cX9_outcomeOf 28 = .ok (.ifCond .ge 22, 3) := by decide +kernel
theorem dX9_outcomeOf_31 : decode cX9_outcomeOf 31 = .ok (.aload_n 0, 1) := by decide +kernel
theorem dX9_outcomeOf_32 : decode cX9_outcomeOf 32 = .ok (.getfield 7, 3) := by decide +kernel
theorem dX9_outcomeOf_35 : decode cX9_outcomeOf 35 = .ok (.iload_n 3, 1) := by decide +kernel
theorem dX9_outcomeOf_36 : decode cX9_outcomeOf 36 = .ok (.iconst 1, 1) := by decide +kernel
theorem dX9_outcomeOf_37 : decode cX9_outcomeOf 37 = .ok (.iload_n 1, 1) := by decide +kernel
theorem dX9_outcomeOf_38 : decode cX9_outcomeOf 38 = .ok (.iadd, 1) := by decide +kernel
theorem dX9_outcomeOf_39 : decode cX9_outcomeOf 39 = .ok (.invokestatic 104, 3) := by decide +kernel
theorem dX9_outcomeOf_42 : decode cX9_outcomeOf 42 = .ok (.laload, 1) := by decide +kernel
theorem dX9_outcomeOf_43 : decode cX9_outcomeOf 43 = .ok (.iload_n 2, 1) := by decide +kernel
theorem dX9_outcomeOf_44 : decode cX9_outcomeOf 44 = .ok (.invokestatic 101, 3) := by decide +kernel
theorem dX9_outcomeOf_47 : decode cX9_outcomeOf 47 = .ok (.goto 5, 3) := by decide +kernel
theorem dX9_outcomeOf_50 : decode cX9_outcomeOf 50 = .ok (.bipush (-9), 2) := by decide +kernel
theorem dX9_outcomeOf_52 : decode cX9_outcomeOf 52 = .ok (.ireturn, 1) := by decide +kernel
theorem dX9_isAsked_0 : decode cX9_isAsked 0 = .ok (.iload_n 1, 1) := by decide +kernel
theorem dX9_isAsked_1 : decode cX9_isAsked 1 = .ok (.i2l, 1) := by decide +kernel
theorem dX9_isAsked_2 : decode cX9_isAsked 2 = .ok (.lconst 0, 1) := by decide +kernel
theorem dX9_isAsked_3 : decode cX9_isAsked 3 = .ok (.ldc2_w 278, 3) := by decide +kernel
theorem dX9_isAsked_6 : decode cX9_isAsked 6 = .ok (.invokestatic 32, 3) := by decide +kernel
theorem dX9_isAsked_9 : decode cX9_isAsked 9 = .ok (.ifCond .eq 20, 3) := by decide +kernel
theorem dX9_isAsked_12 : decode cX9_isAsked 12 = .ok (.iload_n 2, 1) := by decide +kernel
theorem dX9_isAsked_13 : decode cX9_isAsked 13 = .ok (.iconst (-1), 1) := by decide +kernel
theorem dX9_isAsked_14 : decode cX9_isAsked 14 = .ok (.if_icmp .eq 11, 3) := by decide +kernel
theorem dX9_isAsked_17 : decode cX9_isAsked 17 = .ok (.aload_n 0, 1) := by decide +kernel
theorem dX9_isAsked_18 : decode cX9_isAsked 18 = .ok (.iload_n 2, 1) := by decide +kernel
theorem dX9_isAsked_19 : decode cX9_isAsked 19 = .ok (.invokevirtual 298, 3) := by decide +kernel
theorem dX9_isAsked_22 : decode cX9_isAsked 22 = .ok (.ifCond .eq 7, 3) := by decide +kernel
theorem dX9_isAsked_25 : decode cX9_isAsked 25 = .ok (.iconst 1, 1) := by decide +kernel
theorem dX9_isAsked_26 : decode cX9_isAsked 26 = .ok (.goto 4, 3) := by decide +kernel
theorem dX9_isAsked_29 : decode cX9_isAsked 29 = .ok (.iconst 0, 1) := by decide +kernel
theorem dX9_isAsked_30 : decode cX9_isAsked 30 = .ok (.ireturn, 1) := by decide +kernel
theorem dX9_outcome_0 : decode cX9_outcome 0 = .ok (.aload_n 0, 1) := by decide +kernel
theorem dX9_outcome_1 : decode cX9_outcome 1 = .ok (.iload_n 1, 1) := by decide +kernel
theorem dX9_outcome_2 : decode cX9_outcome 2 = .ok (.invokevirtual 289, 3) := by decide +kernel
theorem dX9_outcome_5 : decode cX9_outcome 5 = .ok (.ifCond .eq 22, 3) := by decide +kernel
theorem dX9_outcome_8 : decode cX9_outcome 8 = .ok (.aload_n 0, 1) := by decide +kernel
theorem dX9_outcome_9 : decode cX9_outcome 9 = .ok (.iload_n 2, 1) := by decide +kernel
theorem dX9_outcome_10 : decode cX9_outcome 10 = .ok (.iload_n 3, 1) := by decide +kernel
theorem dX9_outcome_11 : decode cX9_outcome 11 = .ok (.invokevirtual 301, 3) := by decide +kernel
theorem dX9_outcome_14 : decode cX9_outcome 14 = .ok (.ifCond .eq 13, 3) := by decide +kernel
theorem dX9_outcome_17 : decode cX9_outcome 17 = .ok (.aload_n 0, 1) := by decide +kernel
theorem dX9_outcome_18 : decode cX9_outcome 18 = .ok (.iload_n 1, 1) := by decide +kernel
theorem dX9_outcome_19 : decode cX9_outcome 19 = .ok (.iload_n 2, 1) := by decide +kernel
theorem dX9_outcome_20 : decode cX9_outcome 20 = .ok (.iload_n 3, 1) := by decide +kernel
theorem dX9_outcome_21 : decode cX9_outcome 21 = .ok (.invokevirtual 304, 3) := by decide +kernel
theorem dX9_outcome_24 : decode cX9_outcome 24 = .ok (.goto 4, 3) := by decide +kernel
theorem dX9_outcome_27 : decode cX9_outcome 27 = .ok (.iconst (-1), 1) := by decide +kernel
theorem dX9_outcome_28 : decode cX9_outcome 28 = .ok (.ireturn, 1) := by decide +kernel
theorem dX9_tallied_0 : decode cX9_tallied 0 = .ok (.iconst 0, 1) := by decide +kernel
theorem dX9_tallied_1 : decode cX9_tallied 1 = .ok (.istore 5, 2) := by decide +kernel
theorem dX9_tallied_3 : decode cX9_tallied 3 = .ok (.iconst 0, 1) := by decide +kernel
theorem dX9_tallied_4 : decode cX9_tallied 4 = .ok (.istore 6, 2) := by decide +kernel
theorem dX9_tallied_6 : decode cX9_tallied 6 = .ok (.iload 6, 2) := by decide +kernel
theorem dX9_tallied_8 : decode cX9_tallied 8 = .ok (.i2l, 1) := by decide +kernel
theorem dX9_tallied_9 : decode cX9_tallied 9 = .ok (.aload_n 0, 1) := by decide +kernel
theorem dX9_tallied_10 : decode cX9_tallied 10 = .ok (.getfield 7, 3) := by decide +kernel
theorem dX9_tallied_13 : decode cX9_tallied 13 = .ok (.iconst 0, 1) := by decide +kernel
theorem dX9_tallied_14 : decode cX9_tallied 14 = .ok (.laload, 1) := by decide +kernel
theorem dX9_tallied_15 : decode cX9_tallied 15 = .ok (.lcmp, 1) := by decide +kernel
theorem dX9_tallied_16 : decode cX9_tallied 16 = .ok (.ifCond .ge 67, 3) := by decide +kernel
theorem dX9_tallied_19 : decode cX9_tallied 19 = .ok (.iload 4, 2) := by decide +kernel
theorem dX9_tallied_21 : decode cX9_tallied 21 = .ok (.iconst (-1), 1) := by decide +kernel
theorem dX9_tallied_22 : decode cX9_tallied 22 = .ok (.if_icmp .eq 21, 3) := by decide +kernel
theorem dX9_tallied_25 : decode cX9_tallied 25 = .ok (.aload_n 0, 1) := by decide +kernel
theorem dX9_tallied_26 : decode cX9_tallied 26 = .ok (.getfield 7, 3) := by decide +kernel
theorem dX9_tallied_29 : decode cX9_tallied 29 = .ok (.iload 6, 2) := by decide +kernel
theorem dX9_tallied_31 : decode cX9_tallied 31 = .ok (.iconst 0, 1) := by decide +kernel
theorem dX9_tallied_32 : decode cX9_tallied 32 = .ok (.invokestatic 40, 3) := by decide +kernel
theorem dX9_tallied_35 : decode cX9_tallied 35 = .ok (.laload, 1) := by decide +kernel
theorem dX9_tallied_36 : decode cX9_tallied 36 = .ok (.iload 4, 2) := by decide +kernel
theorem dX9_tallied_38 : decode cX9_tallied 38 = .ok (.i2l, 1) := by decide +kernel
theorem dX9_tallied_39 : decode cX9_tallied 39 = .ok (.lcmp, 1) := by decide +kernel
theorem dX9_tallied_40 : decode cX9_tallied 40 = .ok (.ifCond .ne 7, 3) := by decide +kernel
theorem dX9_tallied_43 : decode cX9_tallied 43 = .ok (.iconst 1, 1) := by decide +kernel
theorem dX9_tallied_44 : decode cX9_tallied 44 = .ok (.goto 4, 3) := by decide +kernel
theorem dX9_tallied_47 : decode cX9_tallied 47 = .ok (.iconst 0, 1) := by decide +kernel
theorem dX9_tallied_48 : decode cX9_tallied 48 = .ok (.istore 7, 2) := by decide +kernel
theorem dX9_tallied_50 : decode cX9_tallied 50 = .ok (.iload 5, 2) := by decide +kernel
theorem dX9_tallied_52 : decode cX9_tallied 52 = .ok (.iload 7, 2) := by decide +kernel
theorem dX9_tallied_54 : decode cX9_tallied 54 = .ok (.ifCond .eq 19, 3) := by decide +kernel
theorem dX9_tallied_57 : decode cX9_tallied 57 = .ok (.aload_n 0, 1) := by decide +kernel
theorem dX9_tallied_58 : decode cX9_tallied 58 = .ok (.iload 6, 2) := by decide +kernel
theorem dX9_tallied_60 : decode cX9_tallied 60 = .ok (.iload_n 1, 1) := by decide +kernel
theorem dX9_tallied_61 : decode cX9_tallied 61 = .ok (.iload_n 3, 1) := by decide +kernel
theorem dX9_tallied_62 : decode cX9_tallied 62 = .ok (.invokevirtual 304, 3) := by decide +kernel
theorem dX9_tallied_65 : decode cX9_tallied 65 = .ok (.iload_n 2, 1) := by decide +kernel
theorem dX9_tallied_66 : decode cX9_tallied 66 = .ok (.if_icmp .ne 7, 3) := by decide +kernel
theorem dX9_tallied_69 : decode cX9_tallied 69 = .ok (.iconst 1, 1) := by decide +kernel
theorem dX9_tallied_70 : decode cX9_tallied 70 = .ok (.goto 4, 3) := by decide +kernel
theorem dX9_tallied_73 : decode cX9_tallied 73 = .ok (.iconst 0, 1) := by decide +kernel
theorem dX9_tallied_74 : decode cX9_tallied 74 = .ok (.iadd, 1) := by decide +kernel
theorem dX9_tallied_75 : decode cX9_tallied 75 = .ok (.istore 5, 2) := by decide +kernel
theorem dX9_tallied_77 : decode cX9_tallied 77 = .ok (.iinc 6 1, 3) := by decide +kernel
theorem dX9_tallied_80 : decode cX9_tallied 80 = .ok (.goto (-74), 3) := by decide +kernel
theorem dX9_tallied_83 : decode cX9_tallied 83 = .ok (.iload 5, 2) := by decide +kernel
theorem dX9_tallied_85 : decode cX9_tallied 85 = .ok (.ireturn, 1) := by decide +kernel
theorem dX9_tally_0 : decode cX9_tally 0 = .ok (.aload_n 0, 1) := by decide +kernel
theorem dX9_tally_1 : decode cX9_tally 1 = .ok (.iload_n 1, 1) := by decide +kernel
theorem dX9_tally_2 : decode cX9_tally 2 = .ok (.iload_n 3, 1) := by decide +kernel
theorem dX9_tally_3 : decode cX9_tally 3 = .ok (.invokevirtual 301, 3) := by decide +kernel
theorem dX9_tally_6 : decode cX9_tally 6 = .ok (.ifCond .eq 34, 3) := by decide +kernel
theorem dX9_tally_9 : decode cX9_tally 9 = .ok (.iload_n 2, 1) := by decide +kernel
theorem dX9_tally_10 : decode cX9_tally 10 = .ok (.i2l, 1) := by decide +kernel
theorem dX9_tally_11 : decode cX9_tally 11 = .ok (.lconst 0, 1) := by decide +kernel
theorem dX9_tally_12 : decode cX9_tally 12 = .ok (.ldc2_w 30, 3) := by decide +kernel
theorem dX9_tally_15 : decode cX9_tally 15 = .ok (.invokestatic 32, 3) := by decide +kernel
theorem dX9_tally_18 : decode cX9_tally 18 = .ok (.ifCond .eq 22, 3) := by decide +kernel
theorem dX9_tally_21 : decode cX9_tally 21 = .ok (.iload 4, 2) := by decide +kernel
theorem dX9_tally_23 : decode cX9_tally 23 = .ok (.i2l, 1) := by decide +kernel
theorem dX9_tally_24 : decode cX9_tally 24 = .ok (.ldc2_w 52, 3) := by decide +kernel
theorem dX9_tally_27 : decode cX9_tally 27 = .ok (.ldc2_w 48, 3) := by decide +kernel
theorem dX9_tally_30 : decode cX9_tally 30 = .ok (.invokestatic 32, 3) := by decide +kernel
theorem dX9_tally_33 : decode cX9_tally 33 = .ok (.ifCond .eq 7, 3) := by decide +kernel
theorem dX9_tally_36 : decode cX9_tally 36 = .ok (.iconst 1, 1) := by decide +kernel
theorem dX9_tally_37 : decode cX9_tally 37 = .ok (.goto 4, 3) := by decide +kernel
theorem dX9_tally_40 : decode cX9_tally 40 = .ok (.iconst 0, 1) := by decide +kernel
theorem dX9_tally_41 : decode cX9_tally 41 = .ok (.istore 5, 2) := by decide +kernel
theorem dX9_tally_43 : decode cX9_tally 43 = .ok (.iload 5, 2) := by decide +kernel
theorem dX9_tally_45 : decode cX9_tally 45 = .ok (.ifCond .eq 15, 3) := by decide +kernel
theorem dX9_tally_48 : decode cX9_tally 48 = .ok (.aload_n 0, 1) := by decide +kernel
theorem dX9_tally_49 : decode cX9_tally 49 = .ok (.iload_n 1, 1) := by decide +kernel
theorem dX9_tally_50 : decode cX9_tally 50 = .ok (.iload_n 2, 1) := by decide +kernel
theorem dX9_tally_51 : decode cX9_tally 51 = .ok (.iload_n 3, 1) := by decide +kernel
theorem dX9_tally_52 : decode cX9_tally 52 = .ok (.iload 4, 2) := by decide +kernel
theorem dX9_tally_54 : decode cX9_tally 54 = .ok (.invokevirtual 307, 3) := by decide +kernel
theorem dX9_tally_57 : decode cX9_tally 57 = .ok (.goto 4, 3) := by decide +kernel
theorem dX9_tally_60 : decode cX9_tally 60 = .ok (.iconst (-1), 1) := by decide +kernel
theorem dX9_tally_61 : decode cX9_tally 61 = .ok (.ireturn, 1) := by decide +kernel
theorem dX9_changed_0 : decode cX9_changed 0 = .ok (.aload_n 0, 1) := by decide +kernel
theorem dX9_changed_1 : decode cX9_changed 1 = .ok (.iload_n 1, 1) := by decide +kernel
theorem dX9_changed_2 : decode cX9_changed 2 = .ok (.invokevirtual 298, 3) := by decide +kernel
theorem dX9_changed_5 : decode cX9_changed 5 = .ok (.ifCond .eq 17, 3) := by decide +kernel
theorem dX9_changed_8 : decode cX9_changed 8 = .ok (.iload_n 2, 1) := by decide +kernel
theorem dX9_changed_9 : decode cX9_changed 9 = .ok (.ifCond .lt 13, 3) := by decide +kernel
theorem dX9_changed_12 : decode cX9_changed 12 = .ok (.iload_n 3, 1) := by decide +kernel
theorem dX9_changed_13 : decode cX9_changed 13 = .ok (.i2l, 1) := by decide +kernel
theorem dX9_changed_14 : decode cX9_changed 14 = .ok (.lconst 0, 1) := by decide +kernel
theorem dX9_changed_15 : decode cX9_changed 15 = .ok (.lconst 1, 1) := by decide +kernel
theorem dX9_changed_16 : decode cX9_changed 16 = .ok (.invokestatic 32, 3) := by decide +kernel
theorem dX9_changed_19 : decode cX9_changed 19 = .ok (.ifCond .ne 5, 3) := by decide +kernel
theorem dX9_changed_22 : decode cX9_changed 22 = .ok (.iconst (-1), 1) := by decide +kernel
theorem dX9_changed_23 : decode cX9_changed 23 = .ok (.ireturn, 1) := by decide +kernel
theorem dX9_changed_24 : decode cX9_changed 24 = .ok (.iconst 0, 1) := by decide +kernel
theorem dX9_changed_25 : decode cX9_changed 25 = .ok (.istore 4, 2) := by decide +kernel
theorem dX9_changed_27 : decode cX9_changed 27 = .ok (.iconst 0, 1) := by decide +kernel
theorem dX9_changed_28 : decode cX9_changed 28 = .ok (.istore 5, 2) := by decide +kernel
theorem dX9_changed_30 : decode cX9_changed 30 = .ok (.iload_n 1, 1) := by decide +kernel
theorem dX9_changed_31 : decode cX9_changed 31 = .ok (.ifCond .le 99, 3) := by decide +kernel
theorem dX9_changed_34 : decode cX9_changed 34 = .ok (.iload 5, 2) := by decide +kernel
theorem dX9_changed_36 : decode cX9_changed 36 = .ok (.i2l, 1) := by decide +kernel
theorem dX9_changed_37 : decode cX9_changed 37 = .ok (.aload_n 0, 1) := by decide +kernel
theorem dX9_changed_38 : decode cX9_changed 38 = .ok (.getfield 7, 3) := by decide +kernel
theorem dX9_changed_41 : decode cX9_changed 41 = .ok (.iload_n 1, 1) := by decide +kernel
theorem dX9_changed_42 : decode cX9_changed 42 = .ok (.iconst 1, 1) := by decide +kernel
theorem dX9_changed_43 : decode cX9_changed 43 = .ok (.isub, 1) := by decide +kernel
theorem dX9_changed_44 : decode cX9_changed 44 = .ok (.iconst 0, 1) := by decide +kernel
theorem dX9_changed_45 : decode cX9_changed 45 = .ok (.invokestatic 104, 3) := by decide +kernel
theorem dX9_changed_48 : decode cX9_changed 48 = .ok (.laload, 1) := by decide +kernel
theorem dX9_changed_49 : decode cX9_changed 49 = .ok (.lcmp, 1) := by decide +kernel
theorem dX9_changed_50 : decode cX9_changed 50 = .ok (.ifCond .ge 80, 3) := by decide +kernel
theorem dX9_changed_53 : decode cX9_changed 53 = .ok (.aload_n 0, 1) := by decide +kernel
theorem dX9_changed_54 : decode cX9_changed 54 = .ok (.getfield 7, 3) := by decide +kernel
theorem dX9_changed_57 : decode cX9_changed 57 = .ok (.iload_n 1, 1) := by decide +kernel
theorem dX9_changed_58 : decode cX9_changed 58 = .ok (.iconst 1, 1) := by decide +kernel
theorem dX9_changed_59 : decode cX9_changed 59 = .ok (.isub, 1) := by decide +kernel
theorem dX9_changed_60 : decode cX9_changed 60 = .ok (.iconst 1, 1) := by decide +kernel
theorem dX9_changed_61 : decode cX9_changed 61 = .ok (.iload 5, 2) := by decide +kernel
theorem dX9_changed_63 : decode cX9_changed 63 = .ok (.iadd, 1) := by decide +kernel
theorem dX9_changed_64 : decode cX9_changed 64 = .ok (.invokestatic 104, 3) := by decide +kernel
theorem dX9_changed_67 : decode cX9_changed 67 = .ok (.laload, 1) := by decide +kernel
theorem dX9_changed_68 : decode cX9_changed 68 = .ok (.aload_n 0, 1) := by decide +kernel
theorem dX9_changed_69 : decode cX9_changed 69 = .ok (.getfield 7, 3) := by decide +kernel
theorem dX9_changed_72 : decode cX9_changed 72 = .ok (.iload_n 1, 1) := by decide +kernel
theorem dX9_changed_73 : decode cX9_changed 73 = .ok (.iconst 1, 1) := by decide +kernel
theorem dX9_changed_74 : decode cX9_changed 74 = .ok (.iload 5, 2) := by decide +kernel
theorem dX9_changed_76 : decode cX9_changed 76 = .ok (.iadd, 1) := by decide +kernel
theorem dX9_changed_77 : decode cX9_changed 77 = .ok (.invokestatic 104, 3) := by decide +kernel
theorem dX9_changed_80 : decode cX9_changed 80 = .ok (.laload, 1) := by decide +kernel
theorem dX9_changed_81 : decode cX9_changed 81 = .ok (.invokestatic 115, 3) := by decide +kernel
theorem dX9_changed_84 : decode cX9_changed 84 = .ok (.istore 6, 2) := by decide +kernel
theorem dX9_changed_86 : decode cX9_changed 86 = .ok (.iload 6, 2) := by decide +kernel
theorem dX9_changed_88 : decode cX9_changed 88 = .ok (.ifCond .eq 21, 3) := by decide +kernel
theorem dX9_changed_91 : decode cX9_changed 91 = .ok (.iload 4, 2) := by decide +kernel
theorem dX9_changed_93 : decode cX9_changed 93 = .ok (.iload_n 2, 1) := by decide +kernel
theorem dX9_changed_94 : decode cX9_changed 94 = .ok (.if_icmp .ne 15, 3) := by decide +kernel
theorem dX9_changed_97 : decode cX9_changed 97 = .ok (.iload_n 3, 1) := by decide +kernel
theorem dX9_changed_98 : decode cX9_changed 98 = .ok (.ifCond .ne 8, 3) := by decide +kernel
theorem dX9_changed_101 : decode cX9_changed 101 = .ok (.iload 5, 2) := by decide +kernel
theorem dX9_changed_103 : decode cX9_changed 103 = .ok (.goto 5, 3) := by decide +kernel
theorem dX9_changed_106 : decode cX9_changed 106 = .ok (.iload 6, 2) := by decide +kernel
theorem dX9_changed_108 : decode cX9_changed 108 = .ok (.ireturn, 1) := by decide +kernel
theorem dX9_changed_109 : decode cX9_changed 109 = .ok (.iload 4, 2) := by decide +kernel
theorem dX9_changed_111 : decode cX9_changed 111 = .ok (.iload 6, 2) := by decide +kernel
theorem dX9_changed_113 : decode cX9_changed 113 = .ok (.ifCond .eq 7, 3) := by decide +kernel
theorem dX9_changed_116 : decode cX9_changed 116 = .ok (.iconst 1, 1) := by decide +kernel
theorem dX9_changed_117 : decode cX9_changed 117 = .ok (.goto 4, 3) := by decide +kernel
theorem dX9_changed_120 : decode cX9_changed 120 = .ok (.iconst 0, 1) := by decide +kernel
theorem dX9_changed_121 : decode cX9_changed 121 = .ok (.iadd, 1) := by decide +kernel
theorem dX9_changed_122 : decode cX9_changed 122 = .ok (.istore 4, 2) := by decide +kernel
theorem dX9_changed_124 : decode cX9_changed 124 = .ok (.iinc 5 1, 3) := by decide +kernel
theorem dX9_changed_127 : decode cX9_changed 127 = .ok (.goto (-97), 3) := by decide +kernel
theorem dX9_changed_130 : decode cX9_changed 130 = .ok (.bipush (-9), 2) := by decide +kernel
theorem dX9_changed_132 : decode cX9_changed 132 = .ok (.ireturn, 1) := by decide +kernel
theorem dX9_leader_0 : decode cX9_leader 0 = .ok (.iload_n 1, 1) := by decide +kernel
theorem dX9_leader_1 : decode cX9_leader 1 = .ok (.i2l, 1) := by decide +kernel
theorem dX9_leader_2 : decode cX9_leader 2 = .ok (.lconst 0, 1) := by decide +kernel
theorem dX9_leader_3 : decode cX9_leader 3 = .ok (.ldc2_w 278, 3) := by decide +kernel
theorem dX9_leader_6 : decode cX9_leader 6 = .ok (.invokestatic 32, 3) := by decide +kernel
theorem dX9_leader_9 : decode cX9_leader 9 = .ok (.ifCond .eq 15, 3) := by decide +kernel
theorem dX9_leader_12 : decode cX9_leader 12 = .ok (.iload_n 2, 1) := by decide +kernel
theorem dX9_leader_13 : decode cX9_leader 13 = .ok (.i2l, 1) := by decide +kernel
theorem dX9_leader_14 : decode cX9_leader 14 = .ok (.lconst 0, 1) := by decide +kernel
theorem dX9_leader_15 : decode cX9_leader 15 = .ok (.ldc2_w 278, 3) := by decide +kernel
theorem dX9_leader_18 : decode cX9_leader 18 = .ok (.invokestatic 32, 3) := by decide +kernel
theorem dX9_leader_21 : decode cX9_leader 21 = .ok (.ifCond .ne 5, 3) := by decide +kernel
theorem dX9_leader_24 : decode cX9_leader 24 = .ok (.iconst (-1), 1) := by decide +kernel
theorem dX9_leader_25 : decode cX9_leader 25 = .ok (.ireturn, 1) := by decide +kernel
theorem dX9_leader_26 : decode cX9_leader 26 = .ok (.iconst 0, 1) := by decide +kernel
theorem dX9_leader_27 : decode cX9_leader 27 = .ok (.istore_n 3, 1) := by decide +kernel
theorem dX9_leader_28 : decode cX9_leader 28 = .ok (.iconst 1, 1) := by decide +kernel
theorem dX9_leader_29 : decode cX9_leader 29 = .ok (.istore 4, 2) := by decide +kernel
theorem dX9_leader_31 : decode cX9_leader 31 = .ok (.iload 4, 2) := by decide +kernel
theorem dX9_leader_33 : decode cX9_leader 33 = .ok (.iconst 3, 1) := by decide +kernel
theorem dX9_leader_34 : decode cX9_leader 34 = .ok (.if_icmp .ge 36, 3) := by decide +kernel
theorem dX9_leader_37 : decode cX9_leader 37 = .ok (.aload_n 0, 1) := by decide +kernel
theorem dX9_leader_38 : decode cX9_leader 38 = .ok (.iload_n 1, 1) := by decide +kernel
theorem dX9_leader_39 : decode cX9_leader 39 = .ok (.iload 4, 2) := by decide +kernel
theorem dX9_leader_41 : decode cX9_leader 41 = .ok (.iconst (-1), 1) := by decide +kernel
theorem dX9_leader_42 : decode cX9_leader 42 = .ok (.iconst (-1), 1) := by decide +kernel
theorem dX9_leader_43 : decode cX9_leader 43 = .ok (.invokevirtual 307, 3) := by decide +kernel
theorem dX9_leader_46 : decode cX9_leader 46 = .ok (.aload_n 0, 1) := by decide +kernel
theorem dX9_leader_47 : decode cX9_leader 47 = .ok (.iload_n 1, 1) := by decide +kernel
theorem dX9_leader_48 : decode cX9_leader 48 = .ok (.iload_n 3, 1) := by decide +kernel
theorem dX9_leader_49 : decode cX9_leader 49 = .ok (.iconst (-1), 1) := by decide +kernel
theorem dX9_leader_50 : decode cX9_leader 50 = .ok (.iconst (-1), 1) := by decide +kernel
theorem dX9_leader_51 : decode cX9_leader 51 = .ok (.invokevirtual 307, 3) := by decide +kernel
theorem dX9_leader_54 : decode cX9_leader 54 = .ok (.if_icmp .le 8, 3) := by decide +kernel
theorem dX9_leader_57 : decode cX9_leader 57 = .ok (.iload 4, 2) := by decide +kernel
theorem dX9_leader_59 : decode cX9_leader 59 = .ok (.goto 4, 3) := by decide +kernel
theorem dX9_leader_62 : decode cX9_leader 62 = .ok (.iload_n 3, 1) := by decide +kernel
theorem dX9_leader_63 : decode cX9_leader 63 = .ok (.istore_n 3, 1) := by decide +kernel
theorem dX9_leader_64 : decode cX9_leader 64 = .ok (.iinc 4 1, 3) := by decide +kernel
theorem dX9_leader_67 : decode cX9_leader 67 = .ok (.goto (-36), 3) := by decide +kernel
theorem dX9_leader_70 : decode cX9_leader 70 = .ok (.iconst 0, 1) := by decide +kernel
theorem dX9_leader_71 : decode cX9_leader 71 = .ok (.istore 4, 2) := by decide +kernel
theorem dX9_leader_73 : decode cX9_leader 73 = .ok (.iconst 0, 1) := by decide +kernel
theorem dX9_leader_74 : decode cX9_leader 74 = .ok (.istore 5, 2) := by decide +kernel
theorem dX9_leader_76 : decode cX9_leader 76 = .ok (.iload 5, 2) := by decide +kernel
theorem dX9_leader_78 : decode cX9_leader 78 = .ok (.iconst 3, 1) := by decide +kernel
theorem dX9_leader_79 : decode cX9_leader 79 = .ok (.if_icmp .ge 46, 3) := by decide +kernel
theorem dX9_leader_82 : decode cX9_leader 82 = .ok (.iload 5, 2) := by decide +kernel
theorem dX9_leader_84 : decode cX9_leader 84 = .ok (.iload_n 3, 1) := by decide +kernel
theorem dX9_leader_85 : decode cX9_leader 85 = .ok (.if_icmp .ne 7, 3) := by decide +kernel
theorem dX9_leader_88 : decode cX9_leader 88 = .ok (.iconst 0, 1) := by decide +kernel
theorem dX9_leader_89 : decode cX9_leader 89 = .ok (.goto 12, 3) := by decide +kernel
theorem dX9_leader_92 : decode cX9_leader 92 = .ok (.aload_n 0, 1) := by decide +kernel
theorem dX9_leader_93 : decode cX9_leader 93 = .ok (.iload_n 1, 1) := by decide +kernel
theorem dX9_leader_94 : decode cX9_leader 94 = .ok (.iload 5, 2) := by decide +kernel
theorem dX9_leader_96 : decode cX9_leader 96 = .ok (.iconst (-1), 1) := by decide +kernel
theorem dX9_leader_97 : decode cX9_leader 97 = .ok (.iconst (-1), 1) := by decide +kernel
theorem dX9_leader_98 : decode cX9_leader 98 = .ok (.invokevirtual 307, 3) := by decide +kernel
theorem dX9_leader_101 : decode cX9_leader 101 = .ok (.istore 6, 2) := by decide +kernel
theorem dX9_leader_103 : decode cX9_leader 103 = .ok (.iload 6, 2) := by decide +kernel
theorem dX9_leader_105 : decode cX9_leader 105 = .ok (.iload 4, 2) := by decide +kernel
theorem dX9_leader_107 : decode cX9_leader 107 = .ok (.if_icmp .le 8, 3) := by decide +kernel
theorem dX9_leader_110 : decode cX9_leader 110 = .ok (.iload 6, 2) := by decide +kernel
theorem dX9_leader_112 : decode cX9_leader 112 = .ok (.goto 5, 3) := by decide +kernel
theorem dX9_leader_115 : decode cX9_leader 115 = .ok (.iload 4, 2) := by decide +kernel
theorem dX9_leader_117 : decode cX9_leader 117 = .ok (.istore 4, 2) := by decide +kernel
theorem dX9_leader_119 : decode cX9_leader 119 = .ok (.iinc 5 1, 3) := by decide +kernel
theorem dX9_leader_122 : decode cX9_leader 122 = .ok (.goto (-46), 3) := by decide +kernel
theorem dX9_leader_125 : decode cX9_leader 125 = .ok (.aload_n 0, 1) := by decide +kernel
theorem dX9_leader_126 : decode cX9_leader 126 = .ok (.iload_n 1, 1) := by decide +kernel
theorem dX9_leader_127 : decode cX9_leader 127 = .ok (.iload_n 3, 1) := by decide +kernel
theorem dX9_leader_128 : decode cX9_leader 128 = .ok (.iconst (-1), 1) := by decide +kernel
theorem dX9_leader_129 : decode cX9_leader 129 = .ok (.iconst (-1), 1) := by decide +kernel
theorem dX9_leader_130 : decode cX9_leader 130 = .ok (.invokevirtual 307, 3) := by decide +kernel
theorem dX9_leader_133 : decode cX9_leader 133 = .ok (.iload 4, 2) := by decide +kernel
theorem dX9_leader_135 : decode cX9_leader 135 = .ok (.isub, 1) := by decide +kernel
theorem dX9_leader_136 : decode cX9_leader 136 = .ok (.istore 5, 2) := by decide +kernel
theorem dX9_leader_138 : decode cX9_leader 138 = .ok (.aload_n 0, 1) := by decide +kernel
theorem dX9_leader_139 : decode cX9_leader 139 = .ok (.iload_n 1, 1) := by decide +kernel
theorem dX9_leader_140 : decode cX9_leader 140 = .ok (.iconst 5, 1) := by decide +kernel
theorem dX9_leader_141 : decode cX9_leader 141 = .ok (.iconst (-1), 1) := by decide +kernel
theorem dX9_leader_142 : decode cX9_leader 142 = .ok (.iconst (-1), 1) := by decide +kernel
theorem dX9_leader_143 : decode cX9_leader 143 = .ok (.invokevirtual 307, 3) := by decide +kernel
theorem dX9_leader_146 : decode cX9_leader 146 = .ok (.istore 6, 2) := by decide +kernel
theorem dX9_leader_148 : decode cX9_leader 148 = .ok (.iload_n 2, 1) := by decide +kernel
theorem dX9_leader_149 : decode cX9_leader 149 = .ok (.ifCond .ne 7, 3) := by decide +kernel
theorem dX9_leader_152 : decode cX9_leader 152 = .ok (.iload_n 3, 1) := by decide +kernel
theorem dX9_leader_153 : decode cX9_leader 153 = .ok (.goto 35, 3) := by decide +kernel
theorem dX9_leader_156 : decode cX9_leader 156 = .ok (.iload_n 2, 1) := by decide +kernel
theorem dX9_leader_157 : decode cX9_leader 157 = .ok (.iconst 1, 1) := by decide +kernel
theorem dX9_leader_158 : decode cX9_leader 158 = .ok (.if_icmp .ne 8, 3) := by decide +kernel
theorem dX9_leader_161 : decode cX9_leader 161 = .ok (.iload 5, 2) := by decide +kernel
theorem dX9_leader_163 : decode cX9_leader 163 = .ok (.goto 25, 3) := by decide +kernel
theorem dX9_leader_166 : decode cX9_leader 166 = .ok (.iload_n 2, 1) := by decide +kernel
theorem dX9_leader_167 : decode cX9_leader 167 = .ok (.iconst 2, 1) := by decide +kernel
theorem dX9_leader_168 : decode cX9_leader 168 = .ok (.if_icmp .ne 8, 3) := by decide +kernel
theorem dX9_leader_171 : decode cX9_leader 171 = .ok (.iload 6, 2) := by decide +kernel
theorem dX9_leader_173 : decode cX9_leader 173 = .ok (.goto 15, 3) := by decide +kernel
theorem dX9_leader_176 : decode cX9_leader 176 = .ok (.iload 5, 2) := by decide +kernel
theorem dX9_leader_178 : decode cX9_leader 178 = .ok (.iload 6, 2) := by decide +kernel
theorem dX9_leader_180 : decode cX9_leader 180 = .ok (.if_icmp .le 7, 3) := by decide +kernel
theorem dX9_leader_183 : decode cX9_leader 183 = .ok (.iconst 1, 1) := by decide +kernel
theorem dX9_leader_184 : decode cX9_leader 184 = .ok (.goto 4, 3) := by decide +kernel
theorem dX9_leader_187 : decode cX9_leader 187 = .ok (.iconst 0, 1) := by decide +kernel
theorem dX9_leader_188 : decode cX9_leader 188 = .ok (.ireturn, 1) := by decide +kernel
theorem dX9_size_0 : decode cX9_size 0 = .ok (.iload_n 0, 1) := by decide +kernel
theorem dX9_size_1 : decode cX9_size 1 = .ok (.ifCond .ge 8, 3) := by decide +kernel
theorem dX9_size_4 : decode cX9_size 4 = .ok (.iload_n 0, 1) := by decide +kernel
theorem dX9_size_5 : decode cX9_size 5 = .ok (.ineg, 1) := by decide +kernel
theorem dX9_size_6 : decode cX9_size 6 = .ok (.goto 4, 3) := by decide +kernel
theorem dX9_size_9 : decode cX9_size 9 = .ok (.iload_n 0, 1) := by decide +kernel
theorem dX9_size_10 : decode cX9_size 10 = .ok (.ireturn, 1) := by decide +kernel
theorem dX9_error_0 : decode cX9_error 0 = .ok (.iload_n 1, 1) := by decide +kernel
theorem dX9_error_1 : decode cX9_error 1 = .ok (.i2l, 1) := by decide +kernel
theorem dX9_error_2 : decode cX9_error 2 = .ok (.lconst 0, 1) := by decide +kernel
theorem dX9_error_3 : decode cX9_error 3 = .ok (.ldc2_w 48, 3) := by decide +kernel
theorem dX9_error_6 : decode cX9_error 6 = .ok (.invokestatic 32, 3) := by decide +kernel
theorem dX9_error_9 : decode cX9_error 9 = .ok (.ifCond .eq 15, 3) := by decide +kernel
theorem dX9_error_12 : decode cX9_error 12 = .ok (.iload_n 2, 1) := by decide +kernel
theorem dX9_error_13 : decode cX9_error 13 = .ok (.i2l, 1) := by decide +kernel
theorem dX9_error_14 : decode cX9_error 14 = .ok (.lconst 0, 1) := by decide +kernel
theorem dX9_error_15 : decode cX9_error 15 = .ok (.ldc2_w 48, 3) := by decide +kernel
theorem dX9_error_18 : decode cX9_error 18 = .ok (.invokestatic 32, 3) := by decide +kernel
theorem dX9_error_21 : decode cX9_error 21 = .ok (.ifCond .ne 5, 3) := by decide +kernel
theorem dX9_error_24 : decode cX9_error 24 = .ok (.iconst (-1), 1) := by decide +kernel
theorem dX9_error_25 : decode cX9_error 25 = .ok (.ireturn, 1) := by decide +kernel
theorem dX9_error_26 : decode cX9_error 26 = .ok (.iconst 0, 1) := by decide +kernel
theorem dX9_error_27 : decode cX9_error 27 = .ok (.istore_n 3, 1) := by decide +kernel
theorem dX9_error_28 : decode cX9_error 28 = .ok (.iconst 0, 1) := by decide +kernel
theorem dX9_error_29 : decode cX9_error 29 = .ok (.istore 4, 2) := by decide +kernel
theorem dX9_error_31 : decode cX9_error 31 = .ok (.iload 4, 2) := by decide +kernel
theorem dX9_error_33 : decode cX9_error 33 = .ok (.i2l, 1) := by decide +kernel
theorem dX9_error_34 : decode cX9_error 34 = .ok (.ldc2_w 280, 3) := by decide +kernel
theorem dX9_error_37 : decode cX9_error 37 = .ok (.aload_n 0, 1) := by decide +kernel
theorem dX9_error_38 : decode cX9_error 38 = .ok (.getfield 7, 3) := by decide +kernel
theorem dX9_error_41 : decode cX9_error 41 = .ok (.iconst 0, 1) := by decide +kernel
theorem dX9_error_42 : decode cX9_error 42 = .ok (.laload, 1) := by decide +kernel
theorem dX9_error_43 : decode cX9_error 43 = .ok (.lmul, 1) := by decide +kernel
theorem dX9_error_44 : decode cX9_error 44 = .ok (.lcmp, 1) := by decide +kernel
theorem dX9_error_45 : decode cX9_error 45 = .ok (.ifCond .ge 131, 3) := by decide +kernel
theorem dX9_error_48 : decode cX9_error 48 = .ok (.iload 4, 2) := by decide +kernel
theorem dX9_error_50 : decode cX9_error 50 = .ok (.bipush 12, 2) := by decide +kernel
theorem dX9_error_52 : decode cX9_error 52 = .ok (.idiv, 1) := by decide +kernel
theorem dX9_error_53 : decode cX9_error 53 = .ok (.istore 5, 2) := by decide +kernel
theorem dX9_error_55 : decode cX9_error 55 = .ok (.iload 4, 2) := by decide +kernel
theorem dX9_error_57 : decode cX9_error 57 = .ok (.bipush 12, 2) := by decide +kernel
theorem dX9_error_59 : decode cX9_error 59 = .ok (.irem, 1) := by decide +kernel
theorem dX9_error_60 : decode cX9_error 60 = .ok (.istore 6, 2) := by decide +kernel
theorem dX9_error_62 : decode cX9_error 62 = .ok (.aload_n 0, 1) := by decide +kernel
theorem dX9_error_63 : decode cX9_error 63 = .ok (.getfield 7, 3) := by decide +kernel
theorem dX9_error_66 : decode cX9_error 66 = .ok (.iload 5, 2) := by decide +kernel
theorem dX9_error_68 : decode cX9_error 68 = .ok (.iconst 0, 1) := by decide +kernel
theorem dX9_error_69 : decode cX9_error 69 = .ok (.invokestatic 40, 3) := by decide +kernel
theorem dX9_error_72 : decode cX9_error 72 = .ok (.laload, 1) := by decide +kernel
theorem dX9_error_73 : decode cX9_error 73 = .ok (.iload_n 1, 1) := by decide +kernel
theorem dX9_error_74 : decode cX9_error 74 = .ok (.i2l, 1) := by decide +kernel
theorem dX9_error_75 : decode cX9_error 75 = .ok (.lcmp, 1) := by decide +kernel
theorem dX9_error_76 : decode cX9_error 76 = .ok (.ifCond .ne 94, 3) := by decide +kernel
theorem dX9_error_79 : decode cX9_error 79 = .ok (.aload_n 0, 1) := by decide +kernel
theorem dX9_error_80 : decode cX9_error 80 = .ok (.iload 5, 2) := by decide +kernel
theorem dX9_error_82 : decode cX9_error 82 = .ok (.invokevirtual 72, 3) := by decide +kernel
theorem dX9_error_85 : decode cX9_error 85 = .ok (.ifCond .eq 85, 3) := by decide +kernel
theorem dX9_error_88 : decode cX9_error 88 = .ok (.aload_n 0, 1) := by decide +kernel
theorem dX9_error_89 : decode cX9_error 89 = .ok (.getfield 7, 3) := by decide +kernel
theorem dX9_error_92 : decode cX9_error 92 = .ok (.iload 5, 2) := by decide +kernel
theorem dX9_error_94 : decode cX9_error 94 = .ok (.iconst 4, 1) := by decide +kernel
theorem dX9_error_95 : decode cX9_error 95 = .ok (.invokestatic 40, 3) := by decide +kernel
theorem dX9_error_98 : decode cX9_error 98 = .ok (.laload, 1) := by decide +kernel
theorem dX9_error_99 : decode cX9_error 99 = .ok (.iload 6, 2) := by decide +kernel
theorem dX9_error_101 : decode cX9_error 101 = .ok (.invokestatic 44, 3) := by decide +kernel
theorem dX9_error_104 : decode cX9_error 104 = .ok (.aload_n 0, 1) := by decide +kernel
theorem dX9_error_105 : decode cX9_error 105 = .ok (.iload 5, 2) := by decide +kernel
theorem dX9_error_107 : decode cX9_error 107 = .ok (.iload 6, 2) := by decide +kernel
theorem dX9_error_109 : decode cX9_error 109 = .ok (.invokevirtual 58, 3) := by decide +kernel
theorem dX9_error_112 : decode cX9_error 112 = .ok (.isub, 1) := by decide +kernel
theorem dX9_error_113 : decode cX9_error 113 = .ok (.istore 7, 2) := by decide +kernel
theorem dX9_error_115 : decode cX9_error 115 = .ok (.iload 7, 2) := by decide +kernel
theorem dX9_error_117 : decode cX9_error 117 = .ok (.aload_n 0, 1) := by decide +kernel
theorem dX9_error_118 : decode cX9_error 118 = .ok (.iload 5, 2) := by decide +kernel
theorem dX9_error_120 : decode cX9_error 120 = .ok (.iload 6, 2) := by decide +kernel
theorem dX9_error_122 : decode cX9_error 122 = .ok (.aload_n 0, 1) := by decide +kernel
theorem dX9_error_123 : decode cX9_error 123 = .ok (.invokevirtual 107, 3) := by decide +kernel
theorem dX9_error_126 : decode cX9_error 126 = .ok (.invokevirtual 85, 3) := by decide +kernel
theorem dX9_error_129 : decode cX9_error 129 = .ok (.iadd, 1) := by decide +kernel
theorem dX9_error_130 : decode cX9_error 130 = .ok (.istore 8, 2) := by decide +kernel
theorem dX9_error_132 : decode cX9_error 132 = .ok (.iload_n 3, 1) := by decide +kernel
theorem dX9_error_133 : decode cX9_error 133 = .ok (.iload_n 2, 1) := by decide +kernel
theorem dX9_error_134 : decode cX9_error 134 = .ok (.ifCond .ne 16, 3) := by decide +kernel
theorem dX9_error_137 : decode cX9_error 137 = .ok (.aload_n 0, 1) := by decide +kernel
theorem dX9_error_138 : decode cX9_error 138 = .ok (.iconst 1, 1) := by decide +kernel
theorem dX9_error_139 : decode cX9_error 139 = .ok (.iload 7, 2) := by decide +kernel
theorem dX9_error_141 : decode cX9_error 141 = .ok (.invokestatic 310, 3) := by decide +kernel
theorem dX9_error_144 : decode cX9_error 144 = .ok (.invokevirtual 82, 3) := by decide +kernel
theorem dX9_error_147 : decode cX9_error 147 = .ok (.goto 21, 3) := by decide +kernel
theorem dX9_error_150 : decode cX9_error 150 = .ok (.iload_n 2, 1) := by decide +kernel
theorem dX9_error_151 : decode cX9_error 151 = .ok (.iconst 1, 1) := by decide +kernel
theorem dX9_error_152 : decode cX9_error 152 = .ok (.if_icmp .ne 11, 3) := by decide +kernel
theorem dX9_error_155 : decode cX9_error 155 = .ok (.iload 7, 2) := by decide +kernel
theorem dX9_error_157 : decode cX9_error 157 = .ok (.invokestatic 310, 3) := by decide +kernel
theorem dX9_error_160 : decode cX9_error 160 = .ok (.goto 8, 3) := by decide +kernel
theorem dX9_error_163 : decode cX9_error 163 = .ok (.iload 8, 2) := by decide +kernel
theorem dX9_error_165 : decode cX9_error 165 = .ok (.invokestatic 310, 3) := by decide +kernel
theorem dX9_error_168 : decode cX9_error 168 = .ok (.iadd, 1) := by decide +kernel
theorem dX9_error_169 : decode cX9_error 169 = .ok (.istore_n 3, 1) := by decide +kernel
theorem dX9_error_170 : decode cX9_error 170 = .ok (.iinc 4 1, 3) := by decide +kernel
theorem dX9_error_173 : decode cX9_error 173 = .ok (.goto (-142), 3) := by decide +kernel
theorem dX9_error_176 : decode cX9_error 176 = .ok (.iload_n 3, 1) := by decide +kernel
theorem dX9_error_177 : decode cX9_error 177 = .ok (.ireturn, 1) := by decide +kernel
theorem dX9_byLength_0 : decode cX9_byLength 0 = .ok (.iload_n 1, 1) := by decide +kernel
theorem dX9_byLength_1 : decode cX9_byLength 1 = .ok (.i2l, 1) := by decide +kernel
theorem dX9_byLength_2 : decode cX9_byLength 2 = .ok (.ldc2_w 48, 3) := by decide +kernel
theorem dX9_byLength_5 : decode cX9_byLength 5 = .ok (.ldc2_w 169, 3) := by decide +kernel
theorem dX9_byLength_8 : decode cX9_byLength 8 = .ok (.invokestatic 32, 3) := by decide +kernel
theorem dX9_byLength_11 : decode cX9_byLength 11 = .ok (.ifCond .ne 5, 3) := by decide +kernel
theorem dX9_byLength_14 : decode cX9_byLength 14 = .ok (.iconst (-1), 1) := by decide +kernel
theorem dX9_byLength_15 : decode cX9_byLength 15 = .ok (.ireturn, 1) := by decide +kernel
theorem dX9_byLength_16 : decode cX9_byLength 16 = .ok (.iconst 0, 1) := by decide +kernel
theorem dX9_byLength_17 : decode cX9_byLength 17 = .ok (.istore_n 2, 1) := by decide +kernel
theorem dX9_byLength_18 : decode cX9_byLength 18 = .ok (.iconst 0, 1) := by decide +kernel
theorem dX9_byLength_19 : decode cX9_byLength 19 = .ok (.istore_n 3, 1) := by decide +kernel
theorem dX9_byLength_20 : decode cX9_byLength 20 = .ok (.iload_n 3, 1) := by decide +kernel
theorem dX9_byLength_21 : decode cX9_byLength 21 = .ok (.i2l, 1) := by decide +kernel
theorem dX9_byLength_22 : decode cX9_byLength 22 = .ok (.aload_n 0, 1) := by decide +kernel
theorem dX9_byLength_23 : decode cX9_byLength 23 = .ok (.getfield 7, 3) := by decide +kernel
theorem dX9_byLength_26 : decode cX9_byLength 26 = .ok (.iconst 0, 1) := by decide +kernel
theorem dX9_byLength_27 : decode cX9_byLength 27 = .ok (.laload, 1) := by decide +kernel
theorem dX9_byLength_28 : decode cX9_byLength 28 = .ok (.lcmp, 1) := by decide +kernel
theorem dX9_byLength_29 : decode cX9_byLength 29 = .ok (.ifCond .ge 36, 3) := by decide +kernel
theorem dX9_byLength_32 : decode cX9_byLength 32 = .ok (.iload_n 2, 1) := by decide +kernel
theorem dX9_byLength_33 : decode cX9_byLength 33 = .ok (.aload_n 0, 1) := by decide +kernel
theorem dX9_byLength_34 : decode cX9_byLength 34 = .ok (.iload_n 3, 1) := by decide +kernel
theorem dX9_byLength_35 : decode cX9_byLength 35 = .ok (.iload_n 1, 1) := by decide +kernel
theorem dX9_byLength_36 : decode cX9_byLength 36 = .ok (.invokevirtual 111, 3) := by decide +kernel
theorem dX9_byLength_39 : decode cX9_byLength 39 = .ok (.aload_n 0, 1) := by decide +kernel
theorem dX9_byLength_40 : decode cX9_byLength 40 = .ok (.iload_n 3, 1) := by decide +kernel
theorem dX9_byLength_41 : decode cX9_byLength 41 = .ok (.aload_n 0, 1) := by decide +kernel
theorem dX9_byLength_42 : decode cX9_byLength 42 = .ok (.invokevirtual 107, 3) := by decide +kernel
theorem dX9_byLength_45 : decode cX9_byLength 45 = .ok (.invokevirtual 111, 3) := by decide +kernel
theorem dX9_byLength_48 : decode cX9_byLength 48 = .ok (.lcmp, 1) := by decide +kernel
theorem dX9_byLength_49 : decode cX9_byLength 49 = .ok (.ifCond .eq 7, 3) := by decide +kernel
theorem dX9_byLength_52 : decode cX9_byLength 52 = .ok (.iconst 1, 1) := by decide +kernel
theorem dX9_byLength_53 : decode cX9_byLength 53 = .ok (.goto 4, 3) := by decide +kernel
theorem dX9_byLength_56 : decode cX9_byLength 56 = .ok (.iconst 0, 1) := by decide +kernel
theorem dX9_byLength_57 : decode cX9_byLength 57 = .ok (.iadd, 1) := by decide +kernel
theorem dX9_byLength_58 : decode cX9_byLength 58 = .ok (.istore_n 2, 1) := by decide +kernel
theorem dX9_byLength_59 : decode cX9_byLength 59 = .ok (.iinc 3 1, 3) := by decide +kernel
theorem dX9_byLength_62 : decode cX9_byLength 62 = .ok (.goto (-42), 3) := by decide +kernel
theorem dX9_byLength_65 : decode cX9_byLength 65 = .ok (.iload_n 2, 1) := by decide +kernel
theorem dX9_byLength_66 : decode cX9_byLength 66 = .ok (.ireturn, 1) := by decide +kernel
theorem dX9_drawn_0 : decode cX9_drawn 0 = .ok (.iload_n 1, 1) := by decide +kernel
theorem dX9_drawn_1 : decode cX9_drawn 1 = .ok (.i2l, 1) := by decide +kernel
theorem dX9_drawn_2 : decode cX9_drawn 2 = .ok (.lconst 0, 1) := by decide +kernel
theorem dX9_drawn_3 : decode cX9_drawn 3 = .ok (.ldc2_w 142, 3) := by decide +kernel
theorem dX9_drawn_6 : decode cX9_drawn 6 = .ok (.invokestatic 32, 3) := by decide +kernel
theorem dX9_drawn_9 : decode cX9_drawn 9 = .ok (.ifCond .ne 5, 3) := by decide +kernel
theorem dX9_drawn_12 : decode cX9_drawn 12 = .ok (.iconst (-1), 1) := by decide +kernel
theorem dX9_drawn_13 : decode cX9_drawn 13 = .ok (.ireturn, 1) := by decide +kernel
theorem dX9_drawn_14 : decode cX9_drawn 14 = .ok (.aload_n 0, 1) := by decide +kernel
theorem dX9_drawn_15 : decode cX9_drawn 15 = .ok (.invokevirtual 144, 3) := by decide +kernel
theorem dX9_drawn_18 : decode cX9_drawn 18 = .ok (.istore_n 2, 1) := by decide +kernel
theorem dX9_drawn_19 : decode cX9_drawn 19 = .ok (.iload_n 2, 1) := by decide +kernel
theorem dX9_drawn_20 : decode cX9_drawn 20 = .ok (.ifCond .ne 8, 3) := by decide +kernel
theorem dX9_drawn_23 : decode cX9_drawn 23 = .ok (.bipush (-9), 2) := by decide +kernel
theorem dX9_drawn_25 : decode cX9_drawn 25 = .ok (.goto 26, 3) := by decide +kernel
theorem dX9_drawn_28 : decode cX9_drawn 28 = .ok (.aload_n 0, 1) := by decide +kernel
theorem dX9_drawn_29 : decode cX9_drawn 29 = .ok (.getfield 19, 3) := by decide +kernel
theorem dX9_drawn_32 : decode cX9_drawn 32 = .ok (.ldc2_w 147, 3) := by decide +kernel
theorem dX9_drawn_35 : decode cX9_drawn 35 = .ok (.iload_n 1, 1) := by decide +kernel
theorem dX9_drawn_36 : decode cX9_drawn 36 = .ok (.i2l, 1) := by decide +kernel
theorem dX9_drawn_37 : decode cX9_drawn 37 = .ok (.lmul, 1) := by decide +kernel
theorem dX9_drawn_38 : decode cX9_drawn 38 = .ok (.ldc2_w 149, 3) := by decide +kernel
theorem dX9_drawn_41 : decode cX9_drawn 41 = .ok (.ladd, 1) := by decide +kernel
theorem dX9_drawn_42 : decode cX9_drawn 42 = .ok (.ldc2_w 151, 3) := by decide +kernel
theorem dX9_drawn_45 : decode cX9_drawn 45 = .ok (.lrem, 1) := by decide +kernel
theorem dX9_drawn_46 : decode cX9_drawn 46 = .ok (.iload_n 2, 1) := by decide +kernel
theorem dX9_drawn_47 : decode cX9_drawn 47 = .ok (.i2l, 1) := by decide +kernel
theorem dX9_drawn_48 : decode cX9_drawn 48 = .ok (.lrem, 1) := by decide +kernel
theorem dX9_drawn_49 : decode cX9_drawn 49 = .ok (.l2i, 1) := by decide +kernel
theorem dX9_drawn_50 : decode cX9_drawn 50 = .ok (.iaload, 1) := by decide +kernel
theorem dX9_drawn_51 : decode cX9_drawn 51 = .ok (.ireturn, 1) := by decide +kernel
theorem dX9_seedFor_0 : decode cX9_seedFor 0 = .ok (.aload_n 0, 1) := by decide +kernel
theorem dX9_seedFor_1 : decode cX9_seedFor 1 = .ok (.iload_n 1, 1) := by decide +kernel
theorem dX9_seedFor_2 : decode cX9_seedFor 2 = .ok (.invokevirtual 289, 3) := by decide +kernel
theorem dX9_seedFor_5 : decode cX9_seedFor 5 = .ok (.ifCond .ne 5, 3) := by decide +kernel
theorem dX9_seedFor_8 : decode cX9_seedFor 8 = .ok (.iconst (-1), 1) := by decide +kernel
theorem dX9_seedFor_9 : decode cX9_seedFor 9 = .ok (.ireturn, 1) := by decide +kernel
theorem dX9_seedFor_10 : decode cX9_seedFor 10 = .ok (.aload_n 0, 1) := by decide +kernel
theorem dX9_seedFor_11 : decode cX9_seedFor 11 = .ok (.invokevirtual 144, 3) := by decide +kernel
theorem dX9_seedFor_14 : decode cX9_seedFor 14 = .ok (.istore_n 2, 1) := by decide +kernel
theorem dX9_seedFor_15 : decode cX9_seedFor 15 = .ok (.aload_n 0, 1) := by decide +kernel
theorem dX9_seedFor_16 : decode cX9_seedFor 16 = .ok (.iload_n 1, 1) := by decide +kernel
theorem dX9_seedFor_17 : decode cX9_seedFor 17 = .ok (.invokevirtual 126, 3) := by decide +kernel
theorem dX9_seedFor_20 : decode cX9_seedFor 20 = .ok (.ifCond .ne 6, 3) := by decide +kernel
theorem dX9_seedFor_23 : decode cX9_seedFor 23 = .ok (.bipush (-9), 2) := by decide +kernel
theorem dX9_seedFor_25 : decode cX9_seedFor 25 = .ok (.ireturn, 1) := by decide +kernel
theorem dX9_seedFor_26 : decode cX9_seedFor 26 = .ok (.iconst 0, 1) := by decide +kernel
theorem dX9_seedFor_27 : decode cX9_seedFor 27 = .ok (.istore_n 3, 1) := by decide +kernel
theorem dX9_seedFor_28 : decode cX9_seedFor 28 = .ok (.aload_n 0, 1) := by decide +kernel
theorem dX9_seedFor_29 : decode cX9_seedFor 29 = .ok (.getfield 19, 3) := by decide +kernel
theorem dX9_seedFor_32 : decode cX9_seedFor 32 = .ok (.ldc2_w 147, 3) := by decide +kernel
theorem dX9_seedFor_35 : decode cX9_seedFor 35 = .ok (.iload_n 3, 1) := by decide +kernel
theorem dX9_seedFor_36 : decode cX9_seedFor 36 = .ok (.i2l, 1) := by decide +kernel
theorem dX9_seedFor_37 : decode cX9_seedFor 37 = .ok (.lmul, 1) := by decide +kernel
theorem dX9_seedFor_38 : decode cX9_seedFor 38 = .ok (.ldc2_w 149, 3) := by decide +kernel
theorem dX9_seedFor_41 : decode cX9_seedFor 41 = .ok (.ladd, 1) := by decide +kernel
theorem dX9_seedFor_42 : decode cX9_seedFor 42 = .ok (.ldc2_w 151, 3) := by decide +kernel
theorem dX9_seedFor_45 : decode cX9_seedFor 45 = .ok (.lrem, 1) := by decide +kernel
theorem dX9_seedFor_46 : decode cX9_seedFor 46 = .ok (.iload_n 2, 1) := by decide +kernel
theorem dX9_seedFor_47 : decode cX9_seedFor 47 = .ok (.i2l, 1) := by decide +kernel
theorem dX9_seedFor_48 : decode cX9_seedFor 48 = .ok (.lrem, 1) := by decide +kernel
theorem dX9_seedFor_49 : decode cX9_seedFor 49 = .ok (.l2i, 1) := by decide +kernel
theorem dX9_seedFor_50 : decode cX9_seedFor 50 = .ok (.iaload, 1) := by decide +kernel
theorem dX9_seedFor_51 : decode cX9_seedFor 51 = .ok (.iload_n 1, 1) := by decide +kernel
theorem dX9_seedFor_52 : decode cX9_seedFor 52 = .ok (.if_icmp .eq 9, 3) := by decide +kernel
theorem dX9_seedFor_55 : decode cX9_seedFor 55 = .ok (.iinc 3 1, 3) := by decide +kernel
theorem dX9_seedFor_58 : decode cX9_seedFor 58 = .ok (.goto (-30), 3) := by decide +kernel
theorem dX9_seedFor_61 : decode cX9_seedFor 61 = .ok (.iload_n 3, 1) := by decide +kernel
theorem dX9_seedFor_62 : decode cX9_seedFor 62 = .ok (.ireturn, 1) := by decide +kernel
theorem dJ0_length_8abf5_0 : decode cJ0_length_8abf5 0 = .ok (.aload_n 0, 1) := by decide +kernel
theorem dJ0_length_8abf5_1 : decode cJ0_length_8abf5 1 = .ok (.getfield 9, 3) := by decide +kernel
theorem dJ0_length_8abf5_4 : decode cJ0_length_8abf5 4 = .ok (.arraylength, 1) := by decide +kernel
theorem dJ0_length_8abf5_5 : decode cJ0_length_8abf5 5 = .ok (.aload_n 0, 1) := by decide +kernel
theorem dJ0_length_8abf5_6 : decode cJ0_length_8abf5 6 = .ok (.invokevirtual 335, 3) := by decide +kernel
theorem dJ0_length_8abf5_9 : decode cJ0_length_8abf5 9 = .ok (.ishr, 1) := by decide +kernel
theorem dJ0_length_8abf5_10 : decode cJ0_length_8abf5 10 = .ok (.ireturn, 1) := by decide +kernel
theorem dJ0_charAt_5068e_0 : decode cJ0_charAt_5068e 0 = .ok (.aload_n 0, 1) := by decide +kernel
theorem dJ0_charAt_5068e_1 : decode cJ0_charAt_5068e 1 = .ok (.invokevirtual 492, 3) := by decide +kernel
theorem dJ0_charAt_5068e_4 : decode cJ0_charAt_5068e 4 = .ok (.ifCond .eq 12, 3) := by decide +kernel
theorem dJ0_charAt_5068e_7 : decode cJ0_charAt_5068e 7 = .ok (.aload_n 0, 1) := by decide +kernel
theorem dJ0_charAt_5068e_8 : decode cJ0_charAt_5068e 8 = .ok (.getfield 9, 3) := by decide +kernel
theorem dJ0_charAt_5068e_11 : decode cJ0_charAt_5068e 11 = .ok (.iload_n 1, 1) := by decide +kernel
theorem dJ0_charAt_5068e_12 : decode cJ0_charAt_5068e 12 = .ok (.invokestatic 495, 3) := by decide +kernel
theorem dJ0_charAt_5068e_15 : decode cJ0_charAt_5068e 15 = .ok (.ireturn, 1) := by decide +kernel
theorem dJ0_charAt_5068e_16 : decode cJ0_charAt_5068e 16 = .ok (.aload_n 0, 1) := by decide +kernel
theorem dJ0_charAt_5068e_17 : decode cJ0_charAt_5068e 17 = .ok (.getfield 9, 3) := by decide +kernel
theorem dJ0_charAt_5068e_20 : decode cJ0_charAt_5068e 20 = .ok (.iload_n 1, 1) := by decide +kernel
theorem dJ0_charAt_5068e_21 : decode cJ0_charAt_5068e 21 = .ok (.invokestatic 498, 3) := by decide +kernel
theorem dJ0_charAt_5068e_24 : decode cJ0_charAt_5068e 24 = .ok (.ireturn, 1) := by decide +kernel
theorem dJ0_coder_7d493_0 : decode cJ0_coder_7d493 0 = .ok (.getstatic 38, 3) := by decide +kernel
theorem dJ0_coder_7d493_3 : decode cJ0_coder_7d493 3 = .ok (.ifCond .eq 10, 3) := by decide +kernel
theorem dJ0_coder_7d493_6 : decode cJ0_coder_7d493 6 = .ok (.aload_n 0, 1) := by decide +kernel
theorem dJ0_coder_7d493_7 : decode cJ0_coder_7d493 7 = .ok (.getfield 15, 3) := by decide +kernel
theorem dJ0_coder_7d493_10 : decode cJ0_coder_7d493 10 = .ok (.goto 4, 3) := by decide +kernel
theorem dJ0_coder_7d493_13 : decode cJ0_coder_7d493 13 = .ok (.iconst 1, 1) := by decide +kernel
theorem dJ0_coder_7d493_14 : decode cJ0_coder_7d493 14 = .ok (.ireturn, 1) := by decide +kernel
theorem dJ0_isLatin1_aae02_0 : decode cJ0_isLatin1_aae02 0 = .ok (.getstatic 38, 3) := by decide +kernel
theorem dJ0_isLatin1_aae02_3 : decode cJ0_isLatin1_aae02 3 = .ok (.ifCond .eq 14, 3) := by decide +kernel
theorem dJ0_isLatin1_aae02_6 : decode cJ0_isLatin1_aae02 6 = .ok (.aload_n 0, 1) := by decide +kernel
theorem dJ0_isLatin1_aae02_7 : decode cJ0_isLatin1_aae02 7 = .ok (.getfield 15, 3) := by decide +kernel
theorem dJ0_isLatin1_aae02_10 : decode cJ0_isLatin1_aae02 10 = .ok (.ifCond .ne 7, 3) := by decide +kernel
theorem dJ0_isLatin1_aae02_13 : decode cJ0_isLatin1_aae02 13 = .ok (.iconst 1, 1) := by decide +kernel
theorem dJ0_isLatin1_aae02_14 : decode cJ0_isLatin1_aae02 14 = .ok (.goto 4, 3) := by decide +kernel
theorem dJ0_isLatin1_aae02_17 : decode cJ0_isLatin1_aae02 17 = .ok (.iconst 0, 1) := by decide +kernel
theorem dJ0_isLatin1_aae02_18 : decode cJ0_isLatin1_aae02 18 = .ok (.ireturn, 1) := by decide +kernel
theorem dJ0_checkIndex_df160_0 : decode cJ0_checkIndex_df160 0 = .ok (.iload_n 0, 1) := by decide +kernel
theorem dJ0_checkIndex_df160_1 : decode cJ0_checkIndex_df160 1 = .ok (.iload_n 1, 1) := by decide +kernel
theorem dJ0_checkIndex_df160_2 : decode cJ0_checkIndex_df160 2 = .ok (.getstatic 1053, 3) := by decide +kernel
theorem dJ0_checkIndex_df160_5 : decode cJ0_checkIndex_df160 5 = .ok (.invokestatic 1059, 3) := by decide +kernel
theorem dJ0_checkIndex_df160_8 : decode cJ0_checkIndex_df160 8 = .ok (.pop, 1) := by decide +kernel
theorem dJ0_checkIndex_df160_9 : decode cJ0_checkIndex_df160 9 = .ok (.return_, 1) := by decide +kernel
theorem dJ1_charAt_3b067_0 : decode cJ1_charAt_3b067 0 = .ok (.iload_n 1, 1) := by decide +kernel
theorem dJ1_charAt_3b067_1 : decode cJ1_charAt_3b067 1 = .ok (.aload_n 0, 1) := by decide +kernel
theorem dJ1_charAt_3b067_2 : decode cJ1_charAt_3b067 2 = .ok (.arraylength, 1) := by decide +kernel
theorem dJ1_charAt_3b067_3 : decode cJ1_charAt_3b067 3 = .ok (.invokestatic 9, 3) := by decide +kernel
theorem dJ1_charAt_3b067_6 : decode cJ1_charAt_3b067 6 = .ok (.aload_n 0, 1) := by decide +kernel
theorem dJ1_charAt_3b067_7 : decode cJ1_charAt_3b067 7 = .ok (.iload_n 1, 1) := by decide +kernel
theorem dJ1_charAt_3b067_8 : decode cJ1_charAt_3b067 8 = .ok (.baload, 1) := by decide +kernel
theorem dJ1_charAt_3b067_9 : decode cJ1_charAt_3b067 9 = .ok (.sipush 255, 3) := by decide +kernel
theorem dJ1_charAt_3b067_12 : decode cJ1_charAt_3b067 12 = .ok (.iand, 1) := by decide +kernel
theorem dJ1_charAt_3b067_13 : decode cJ1_charAt_3b067 13 = .ok (.i2c, 1) := by decide +kernel
theorem dJ1_charAt_3b067_14 : decode cJ1_charAt_3b067 14 = .ok (.ireturn, 1) := by decide +kernel
theorem dJ2_getChar_3b067_0 : decode cJ2_getChar_3b067 0 = .ok (.getstatic 44, 3) := by decide +kernel
theorem dJ2_getChar_3b067_3 : decode cJ2_getChar_3b067 3 = .ok (.ifCond .ne 25, 3) := by decide +kernel
theorem dJ2_getChar_3b067_6 : decode cJ2_getChar_3b067 6 = .ok (.iload_n 1, 1) := by decide +kernel
theorem dJ2_getChar_3b067_7 : decode cJ2_getChar_3b067 7 = .ok (.ifCond .lt 11, 3) := by decide +kernel
theorem dJ2_getChar_3b067_10 : decode cJ2_getChar_3b067 10 = .ok (.iload_n 1, 1) := by decide +kernel
theorem dJ2_getChar_3b067_11 : decode cJ2_getChar_3b067 11 = .ok (.aload_n 0, 1) := by decide +kernel
theorem dJ2_getChar_3b067_12 : decode cJ2_getChar_3b067 12 = .ok (.invokestatic 48, 3) := by decide +kernel
theorem dJ2_getChar_3b067_15 : decode cJ2_getChar_3b067 15 = .ok (.if_icmp .lt 13, 3) := by decide +kernel
theorem dJ2_getChar_3b067_18 : decode cJ2_getChar_3b067 18 = .ok (.new 52, 3) := by decide +kernel
theorem dJ2_getChar_3b067_21 : decode cJ2_getChar_3b067 21 = .ok (.dup, 1) := by decide +kernel
theorem dJ2_getChar_3b067_22 : decode cJ2_getChar_3b067 22 = .ok (.ldc 54, 2) := by decide +kernel
theorem dJ2_getChar_3b067_24 : decode cJ2_getChar_3b067 24 = .ok (.invokespecial 56, 3) := by decide +kernel
theorem dJ2_getChar_3b067_27 : decode cJ2_getChar_3b067 27 = .ok (.athrow, 1) := by decide +kernel
theorem dJ2_getChar_3b067_28 : decode cJ2_getChar_3b067 28 = .ok (.iload_n 1, 1) := by decide +kernel
theorem dJ2_getChar_3b067_29 : decode cJ2_getChar_3b067 29 = .ok (.iconst 1, 1) := by decide +kernel
theorem dJ2_getChar_3b067_30 : decode cJ2_getChar_3b067 30 = .ok (.ishl, 1) := by decide +kernel
theorem dJ2_getChar_3b067_31 : decode cJ2_getChar_3b067 31 = .ok (.istore_n 1, 1) := by decide +kernel
theorem dJ2_getChar_3b067_32 : decode cJ2_getChar_3b067 32 = .ok (.aload_n 0, 1) := by decide +kernel
theorem dJ2_getChar_3b067_33 : decode cJ2_getChar_3b067 33 = .ok (.iload_n 1, 1) := by decide +kernel
theorem dJ2_getChar_3b067_34 : decode cJ2_getChar_3b067 34 = .ok (.iinc 1 1, 3) := by decide +kernel
theorem dJ2_getChar_3b067_37 : decode cJ2_getChar_3b067 37 = .ok (.baload, 1) := by decide +kernel
theorem dJ2_getChar_3b067_38 : decode cJ2_getChar_3b067 38 = .ok (.sipush 255, 3) := by decide +kernel
theorem dJ2_getChar_3b067_41 : decode cJ2_getChar_3b067 41 = .ok (.iand, 1) := by decide +kernel
theorem dJ2_getChar_3b067_42 : decode cJ2_getChar_3b067 42 = .ok (.getstatic 59, 3) := by decide +kernel
theorem dJ2_getChar_3b067_45 : decode cJ2_getChar_3b067 45 = .ok (.ishl, 1) := by decide +kernel
theorem dJ2_getChar_3b067_46 : decode cJ2_getChar_3b067 46 = .ok (.aload_n 0, 1) := by decide +kernel
theorem dJ2_getChar_3b067_47 : decode cJ2_getChar_3b067 47 = .ok (.iload_n 1, 1) := by decide +kernel
theorem dJ2_getChar_3b067_48 : decode cJ2_getChar_3b067 48 = .ok (.baload, 1) := by decide +kernel
theorem dJ2_getChar_3b067_49 : decode cJ2_getChar_3b067 49 = .ok (.sipush 255, 3) := by decide +kernel
theorem dJ2_getChar_3b067_52 : decode cJ2_getChar_3b067 52 = .ok (.iand, 1) := by decide +kernel
theorem dJ2_getChar_3b067_53 : decode cJ2_getChar_3b067 53 = .ok (.getstatic 63, 3) := by decide +kernel
theorem dJ2_getChar_3b067_56 : decode cJ2_getChar_3b067 56 = .ok (.ishl, 1) := by decide +kernel
theorem dJ2_getChar_3b067_57 : decode cJ2_getChar_3b067 57 = .ok (.ior, 1) := by decide +kernel
theorem dJ2_getChar_3b067_58 : decode cJ2_getChar_3b067 58 = .ok (.i2c, 1) := by decide +kernel
theorem dJ2_getChar_3b067_59 : decode cJ2_getChar_3b067 59 = .ok (.ireturn, 1) := by decide +kernel
theorem dJ2_length_9d52b_0 : decode cJ2_length_9d52b 0 = .ok (.aload_n 0, 1) := by decide +kernel
theorem dJ2_length_9d52b_1 : decode cJ2_length_9d52b 1 = .ok (.arraylength, 1) := by decide +kernel
theorem dJ2_length_9d52b_2 : decode cJ2_length_9d52b 2 = .ok (.iconst 1, 1) := by decide +kernel
theorem dJ2_length_9d52b_3 : decode cJ2_length_9d52b 3 = .ok (.ishr, 1) := by decide +kernel
theorem dJ2_length_9d52b_4 : decode cJ2_length_9d52b 4 = .ok (.ireturn, 1) := by decide +kernel
theorem dJ2_charAt_3b067_0 : decode cJ2_charAt_3b067 0 = .ok (.iload_n 1, 1) := by decide +kernel
theorem dJ2_charAt_3b067_1 : decode cJ2_charAt_3b067 1 = .ok (.aload_n 0, 1) := by decide +kernel
theorem dJ2_charAt_3b067_2 : decode cJ2_charAt_3b067 2 = .ok (.invokestatic 67, 3) := by decide +kernel
theorem dJ2_charAt_3b067_5 : decode cJ2_charAt_3b067 5 = .ok (.aload_n 0, 1) := by decide +kernel
theorem dJ2_charAt_3b067_6 : decode cJ2_charAt_3b067 6 = .ok (.iload_n 1, 1) := by decide +kernel
theorem dJ2_charAt_3b067_7 : decode cJ2_charAt_3b067 7 = .ok (.invokestatic 71, 3) := by decide +kernel
theorem dJ2_charAt_3b067_10 : decode cJ2_charAt_3b067 10 = .ok (.ireturn, 1) := by decide +kernel
theorem dJ2_checkIndex_2214a_0 : decode cJ2_checkIndex_2214a 0 = .ok (.iload_n 0, 1) := by decide +kernel
theorem dJ2_checkIndex_2214a_1 : decode cJ2_checkIndex_2214a 1 = .ok (.aload_n 1, 1) := by decide +kernel
theorem dJ2_checkIndex_2214a_2 : decode cJ2_checkIndex_2214a 2 = .ok (.invokestatic 48, 3) := by decide +kernel
theorem dJ2_checkIndex_2214a_5 : decode cJ2_checkIndex_2214a 5 = .ok (.invokestatic 414, 3) := by decide +kernel
theorem dJ2_checkIndex_2214a_8 : decode cJ2_checkIndex_2214a 8 = .ok (.return_, 1) := by decide +kernel
theorem dJ3_checkIndex_8e157_0 : decode cJ3_checkIndex_8e157 0 = .ok (.iload_n 0, 1) := by decide +kernel
theorem dJ3_checkIndex_8e157_1 : decode cJ3_checkIndex_8e157 1 = .ok (.ifCond .lt 8, 3) := by decide +kernel
theorem dJ3_checkIndex_8e157_4 : decode cJ3_checkIndex_8e157 4 = .ok (.iload_n 0, 1) := by decide +kernel
theorem dJ3_checkIndex_8e157_5 : decode cJ3_checkIndex_8e157 5 = .ok (.iload_n 1, 1) := by decide +kernel
theorem dJ3_checkIndex_8e157_6 : decode cJ3_checkIndex_8e157 6 = .ok (.if_icmp .lt 10, 3) := by decide +kernel
theorem dJ3_checkIndex_8e157_9 : decode cJ3_checkIndex_8e157 9 = .ok (.aload_n 2, 1) := by decide +kernel
theorem dJ3_checkIndex_8e157_10 : decode cJ3_checkIndex_8e157 10 = .ok (.iload_n 0, 1) := by decide +kernel
theorem dJ3_checkIndex_8e157_11 : decode cJ3_checkIndex_8e157 11 = .ok (.iload_n 1, 1) := by decide +kernel
theorem dJ3_checkIndex_8e157_12 : decode cJ3_checkIndex_8e157 12 = .ok (.invokestatic 95, 3) := by decide +kernel
theorem dJ3_checkIndex_8e157_15 : decode cJ3_checkIndex_8e157 15 = .ok (.athrow, 1) := by decide +kernel
theorem dJ3_checkIndex_8e157_16 : decode cJ3_checkIndex_8e157 16 = .ok (.iload_n 0, 1) := by decide +kernel
theorem dJ3_checkIndex_8e157_17 : decode cJ3_checkIndex_8e157 17 = .ok (.ireturn, 1) := by decide +kernel
theorem dJ9_abs_0f7a4_0 : decode cJ9_abs_0f7a4 0 = .ok (.iload_n 0, 1) := by decide +kernel
theorem dJ9_abs_0f7a4_1 : decode cJ9_abs_0f7a4 1 = .ok (.ifCond .ge 8, 3) := by decide +kernel
theorem dJ9_abs_0f7a4_4 : decode cJ9_abs_0f7a4 4 = .ok (.iload_n 0, 1) := by decide +kernel
theorem dJ9_abs_0f7a4_5 : decode cJ9_abs_0f7a4 5 = .ok (.ineg, 1) := by decide +kernel
theorem dJ9_abs_0f7a4_6 : decode cJ9_abs_0f7a4 6 = .ok (.goto 4, 3) := by decide +kernel
theorem dJ9_abs_0f7a4_9 : decode cJ9_abs_0f7a4 9 = .ok (.iload_n 0, 1) := by decide +kernel
theorem dJ9_abs_0f7a4_10 : decode cJ9_abs_0f7a4 10 = .ok (.ireturn, 1) := by decide +kernel
theorem dJ9_max_7cf53_0 : decode cJ9_max_7cf53 0 = .ok (.iload_n 0, 1) := by decide +kernel
theorem dJ9_max_7cf53_1 : decode cJ9_max_7cf53 1 = .ok (.iload_n 1, 1) := by decide +kernel
theorem dJ9_max_7cf53_2 : decode cJ9_max_7cf53 2 = .ok (.if_icmp .lt 7, 3) := by decide +kernel
theorem dJ9_max_7cf53_5 : decode cJ9_max_7cf53 5 = .ok (.iload_n 0, 1) := by decide +kernel
theorem dJ9_max_7cf53_6 : decode cJ9_max_7cf53 6 = .ok (.goto 4, 3) := by decide +kernel
theorem dJ9_max_7cf53_9 : decode cJ9_max_7cf53 9 = .ok (.iload_n 1, 1) := by decide +kernel
theorem dJ9_max_7cf53_10 : decode cJ9_max_7cf53 10 = .ok (.ireturn, 1) := by decide +kernel
theorem dJ9_min_7cf53_0 : decode cJ9_min_7cf53 0 = .ok (.iload_n 0, 1) := by decide +kernel
theorem dJ9_min_7cf53_1 : decode cJ9_min_7cf53 1 = .ok (.iload_n 1, 1) := by decide +kernel
theorem dJ9_min_7cf53_2 : decode cJ9_min_7cf53 2 = .ok (.if_icmp .gt 7, 3) := by decide +kernel
theorem dJ9_min_7cf53_5 : decode cJ9_min_7cf53 5 = .ok (.iload_n 0, 1) := by decide +kernel
theorem dJ9_min_7cf53_6 : decode cJ9_min_7cf53 6 = .ok (.goto 4, 3) := by decide +kernel
theorem dJ9_min_7cf53_9 : decode cJ9_min_7cf53 9 = .ok (.iload_n 1, 1) := by decide +kernel
theorem dJ9_min_7cf53_10 : decode cJ9_min_7cf53 10 = .ok (.ireturn, 1) := by decide +kernel
