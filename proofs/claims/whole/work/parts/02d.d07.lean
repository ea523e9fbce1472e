theorem dX0_init_0 : decode cX0_init 0 = .ok (.aload_n 0, 1) := by decide +kernel
theorem dX0_init_1 : decode cX0_init 1 = .ok (.invokespecial 3, 3) := by decide +kernel
theorem dX0_init_4 : decode cX0_init 4 = .ok (.aload_n 0, 1) := by decide +kernel
theorem dX0_init_5 : decode cX0_init 5 = .ok (.bipush 40, 2) := by decide +kernel
theorem dX0_init_7 : decode cX0_init 7 = .ok (.newarray .int, 2) := by decide +kernel
theorem dX0_init_9 : decode cX0_init 9 = .ok (.putfield 9, 3) := by decide +kernel
theorem dX0_init_12 : decode cX0_init 12 = .ok (.aload_n 0, 1) := by decide +kernel
theorem dX0_init_13 : decode cX0_init 13 = .ok (.bipush 40, 2) := by decide +kernel
theorem dX0_init_15 : decode cX0_init 15 = .ok (.newarray .int, 2) := by decide +kernel
theorem dX0_init_17 : decode cX0_init 17 = .ok (.putfield 15, 3) := by decide +kernel
theorem dX0_init_20 : decode cX0_init 20 = .ok (.aload_n 0, 1) := by decide +kernel
theorem dX0_init_21 : decode cX0_init 21 = .ok (.bipush 40, 2) := by decide +kernel
theorem dX0_init_23 : decode cX0_init 23 = .ok (.newarray .int, 2) := by decide +kernel
theorem dX0_init_25 : decode cX0_init 25 = .ok (.putfield 18, 3) := by decide +kernel
theorem dX0_init_28 : decode cX0_init 28 = .ok (.aload_n 0, 1) := by decide +kernel
theorem dX0_init_29 : decode cX0_init 29 = .ok (.bipush 40, 2) := by decide +kernel
theorem dX0_init_31 : decode cX0_init 31 = .ok (.newarray .long, 2) := by decide +kernel
theorem dX0_init_33 : decode cX0_init 33 = .ok (.putfield 21, 3) := by decide +kernel
theorem dX0_init_36 : decode cX0_init 36 = .ok (.aload_n 0, 1) := by decide +kernel
theorem dX0_init_37 : decode cX0_init 37 = .ok (.bipush 40, 2) := by decide +kernel
theorem dX0_init_39 : decode cX0_init 39 = .ok (.newarray .long, 2) := by decide +kernel
theorem dX0_init_41 : decode cX0_init 41 = .ok (.putfield 25, 3) := by decide +kernel
theorem dX0_init_44 : decode cX0_init 44 = .ok (.aload_n 0, 1) := by decide +kernel
theorem dX0_init_45 : decode cX0_init 45 = .ok (.iconst 3, 1) := by decide +kernel
theorem dX0_init_46 : decode cX0_init 46 = .ok (.newarray .int, 2) := by decide +kernel
theorem dX0_init_48 : decode cX0_init 48 = .ok (.putfield 28, 3) := by decide +kernel
theorem dX0_init_51 : decode cX0_init 51 = .ok (.aload_n 0, 1) := by decide +kernel
theorem dX0_init_52 : decode cX0_init 52 = .ok (.iconst 4, 1) := by decide +kernel
theorem dX0_init_53 : decode cX0_init 53 = .ok (.newarray .int, 2) := by decide +kernel
theorem dX0_init_55 : decode cX0_init 55 = .ok (.dup, 1) := by decide +kernel
theorem dX0_init_56 : decode cX0_init 56 = .ok (.iconst 0, 1) := by decide +kernel
theorem dX0_init_57 : decode cX0_init 57 = .ok (.iconst 4, 1) := by decide +kernel
theorem dX0_init_58 : decode cX0_init 58 = .ok (.iastore, 1) := by decide +kernel
theorem dX0_init_59 : decode cX0_init 59 = .ok (.dup, 1) := by decide +kernel
theorem dX0_init_60 : decode cX0_init 60 = .ok (.iconst 1, 1) := by decide +kernel
theorem dX0_init_61 : decode cX0_init 61 = .ok (.bipush 6, 2) := by decide +kernel
theorem dX0_init_63 : decode cX0_init 63 = .ok (.iastore, 1) := by decide +kernel
theorem dX0_init_64 : decode cX0_init 64 = .ok (.dup, 1) := by decide +kernel
theorem dX0_init_65 : decode cX0_init 65 = .ok (.iconst 2, 1) := by decide +kernel
theorem dX0_init_66 : decode cX0_init 66 = .ok (.iconst 4, 1) := by decide +kernel
theorem dX0_init_67 : decode cX0_init 67 = .ok (.iastore, 1) := by decide +kernel
theorem dX0_init_68 : decode cX0_init 68 = .ok (.dup, 1) := by decide +kernel
theorem dX0_init_69 : decode cX0_init 69 = .ok (.iconst 3, 1) := by decide +kernel
theorem dX0_init_70 : decode cX0_init 70 = .ok (.iconst 5, 1) := by decide +kernel
theorem dX0_init_71 : decode cX0_init 71 = .ok (.iastore, 1) := by decide +kernel
theorem dX0_init_72 : decode cX0_init 72 = .ok (.putfield 31, 3) := by decide +kernel
theorem dX0_init_75 : decode cX0_init 75 = .ok (.aload_n 0, 1) := by decide +kernel
theorem dX0_init_76 : decode cX0_init 76 = .ok (.bipush 6, 2) := by decide +kernel
theorem dX0_init_78 : decode cX0_init 78 = .ok (.newarray .int, 2) := by decide +kernel
theorem dX0_init_80 : decode cX0_init 80 = .ok (.putfield 34, 3) := by decide +kernel
theorem dX0_init_83 : decode cX0_init 83 = .ok (.aload_n 0, 1) := by decide +kernel
theorem dX0_init_84 : decode cX0_init 84 = .ok (.sipush 240, 3) := by decide +kernel
theorem dX0_init_87 : decode cX0_init 87 = .ok (.newarray .int, 2) := by decide +kernel
theorem dX0_init_89 : decode cX0_init 89 = .ok (.putfield 37, 3) := by decide +kernel
theorem dX0_init_92 : decode cX0_init 92 = .ok (.return_, 1) := by decide +kernel
theorem dX0_copyFrom_0 : decode cX0_copyFrom 0 = .ok (.aload_n 0, 1) := by decide +kernel
theorem dX0_copyFrom_1 : decode cX0_copyFrom 1 = .ok (.aload_n 1, 1) := by decide +kernel
theorem dX0_copyFrom_2 : decode cX0_copyFrom 2 = .ok (.getfield 40, 3) := by decide +kernel
theorem dX0_copyFrom_5 : decode cX0_copyFrom 5 = .ok (.putfield 40, 3) := by decide +kernel
theorem dX0_copyFrom_8 : decode cX0_copyFrom 8 = .ok (.aload_n 0, 1) := by decide +kernel
theorem dX0_copyFrom_9 : decode cX0_copyFrom 9 = .ok (.aload_n 1, 1) := by decide +kernel
theorem dX0_copyFrom_10 : decode cX0_copyFrom 10 = .ok (.getfield 44, 3) := by decide +kernel
theorem dX0_copyFrom_13 : decode cX0_copyFrom 13 = .ok (.putfield 44, 3) := by decide +kernel
theorem dX0_copyFrom_16 : decode cX0_copyFrom 16 = .ok (.aload_n 1, 1) := by decide +kernel
theorem dX0_copyFrom_17 : decode cX0_copyFrom 17 = .ok (.getfield 9, 3) := by decide +kernel
theorem dX0_copyFrom_20 : decode cX0_copyFrom 20 = .ok (.iconst 0, 1) := by decide +kernel
theorem dX0_copyFrom_21 : decode cX0_copyFrom 21 = .ok (.aload_n 0, 1) := by decide +kernel
theorem dX0_copyFrom_22 : decode cX0_copyFrom 22 = .ok (.getfield 9, 3) := by decide +kernel
theorem dX0_copyFrom_25 : decode cX0_copyFrom 25 = .ok (.iconst 0, 1) := by decide +kernel
theorem dX0_copyFrom_26 : decode cX0_copyFrom 26 = .ok (.bipush 40, 2) := by decide +kernel
theorem dX0_copyFrom_28 : decode cX0_copyFrom 28 = .ok (.invokestatic 47, 3) := by decide +kernel
theorem dX0_copyFrom_31 : decode cX0_copyFrom 31 = .ok (.aload_n 1, 1) := by decide +kernel
theorem dX0_copyFrom_32 : decode cX0_copyFrom 32 = .ok (.getfield 15, 3) := by decide +kernel
theorem dX0_copyFrom_35 : decode cX0_copyFrom 35 = .ok (.iconst 0, 1) := by decide +kernel
theorem dX0_copyFrom_36 : decode cX0_copyFrom 36 = .ok (.aload_n 0, 1) := by decide +kernel
theorem dX0_copyFrom_37 : decode cX0_copyFrom 37 = .ok (.getfield 15, 3) := by decide +kernel
theorem dX0_copyFrom_40 : decode cX0_copyFrom 40 = .ok (.iconst 0, 1) := by decide +kernel
theorem dX0_copyFrom_41 : decode cX0_copyFrom 41 = .ok (.bipush 40, 2) := by decide +kernel
theorem dX0_copyFrom_43 : decode cX0_copyFrom 43 = .ok (.invokestatic 47, 3) := by decide +kernel
theorem dX0_copyFrom_46 : decode cX0_copyFrom 46 = .ok (.aload_n 1, 1) := by decide +kernel
theorem dX0_copyFrom_47 : decode cX0_copyFrom 47 = .ok (.getfield 18, 3) := by decide +kernel
theorem dX0_copyFrom_50 : decode cX0_copyFrom 50 = .ok (.iconst 0, 1) := by decide +kernel
theorem dX0_copyFrom_51 : decode cX0_copyFrom 51 = .ok (.aload_n 0, 1) := by decide +kernel
theorem dX0_copyFrom_52 : decode cX0_copyFrom 52 = .ok (.getfield 18, 3) := by decide +kernel
theorem dX0_copyFrom_55 : decode cX0_copyFrom 55 = .ok (.iconst 0, 1) := by decide +kernel
theorem dX0_copyFrom_56 : decode cX0_copyFrom 56 = .ok (.bipush 40, 2) := by decide +kernel
theorem dX0_copyFrom_58 : decode cX0_copyFrom 58 = .ok (.invokestatic 47, 3) := by decide +kernel
theorem dX0_copyFrom_61 : decode cX0_copyFrom 61 = .ok (.aload_n 1, 1) := by decide +kernel
theorem dX0_copyFrom_62 : decode cX0_copyFrom 62 = .ok (.getfield 21, 3) := by decide +kernel
theorem dX0_copyFrom_65 : decode cX0_copyFrom 65 = .ok (.iconst 0, 1) := by decide +kernel
theorem dX0_copyFrom_66 : decode cX0_copyFrom 66 = .ok (.aload_n 0, 1) := by decide +kernel
theorem dX0_copyFrom_67 : decode cX0_copyFrom 67 = .ok (.getfield 21, 3) := by decide +kernel
theorem dX0_copyFrom_70 : decode cX0_copyFrom 70 = .ok (.iconst 0, 1) := by decide +kernel
theorem dX0_copyFrom_71 : decode cX0_copyFrom 71 = .ok (.bipush 40, 2) := by decide +kernel
theorem dX0_copyFrom_73 : decode cX0_copyFrom 73 = .ok (.invokestatic 47, 3) := by decide +kernel
theorem dX0_copyFrom_76 : decode cX0_copyFrom 76 = .ok (.aload_n 1, 1) := by decide +kernel
theorem dX0_copyFrom_77 : decode cX0_copyFrom 77 = .ok (.getfield 25, 3) := by decide +kernel
theorem dX0_copyFrom_80 : decode cX0_copyFrom 80 = .ok (.iconst 0, 1) := by decide +kernel
theorem dX0_copyFrom_81 : decode cX0_copyFrom 81 = .ok (.aload_n 0, 1) := by decide +kernel
theorem dX0_copyFrom_82 : decode cX0_copyFrom 82 = .ok (.getfield 25, 3) := by decide +kernel
theorem dX0_copyFrom_85 : decode cX0_copyFrom 85 = .ok (.iconst 0, 1) := by decide +kernel
theorem dX0_copyFrom_86 : decode cX0_copyFrom 86 = .ok (.bipush 40, 2) := by decide +kernel
theorem dX0_copyFrom_88 : decode cX0_copyFrom 88 = .ok (.invokestatic 47, 3) := by decide +kernel
theorem dX0_copyFrom_91 : decode cX0_copyFrom 91 = .ok (.aload_n 1, 1) := by decide +kernel
theorem dX0_copyFrom_92 : decode cX0_copyFrom 92 = .ok (.getfield 28, 3) := by decide +kernel
theorem dX0_copyFrom_95 : decode cX0_copyFrom 95 = .ok (.iconst 0, 1) := by decide +kernel
theorem dX0_copyFrom_96 : decode cX0_copyFrom 96 = .ok (.aload_n 0, 1) := by decide +kernel
theorem dX0_copyFrom_97 : decode cX0_copyFrom 97 = .ok (.getfield 28, 3) := by decide +kernel
theorem dX0_copyFrom_100 : decode cX0_copyFrom 100 = .ok (.iconst 0, 1) := by decide +kernel
theorem dX0_copyFrom_101 : decode cX0_copyFrom 101 = .ok (.iconst 3, 1) := by decide +kernel
theorem dX0_copyFrom_102 : decode cX0_copyFrom 102 = .ok (.invokestatic 47, 3) := by decide +kernel
theorem dX0_copyFrom_105 : decode cX0_copyFrom 105 = .ok (.aload_n 1, 1) := by decide +kernel
theorem dX0_copyFrom_106 : decode cX0_copyFrom 106 = .ok (.getfield 31, 3) := by decide +kernel
theorem dX0_copyFrom_109 : decode cX0_copyFrom 109 = .ok (.iconst 0, 1) := by decide +kernel
theorem dX0_copyFrom_110 : decode cX0_copyFrom 110 = .ok (.aload_n 0, 1) := by decide +kernel
theorem dX0_copyFrom_111 : decode cX0_copyFrom 111 = .ok (.getfield 31, 3) := by decide +kernel
theorem dX0_copyFrom_114 : decode cX0_copyFrom 114 = .ok (.iconst 0, 1) := by decide +kernel
theorem dX0_copyFrom_115 : decode cX0_copyFrom 115 = .ok (.iconst 4, 1) := by decide +kernel
theorem dX0_copyFrom_116 : decode cX0_copyFrom 116 = .ok (.invokestatic 47, 3) := by decide +kernel
theorem dX0_copyFrom_119 : decode cX0_copyFrom 119 = .ok (.aload_n 1, 1) := by decide +kernel
theorem dX0_copyFrom_120 : decode cX0_copyFrom 120 = .ok (.getfield 34, 3) := by decide +kernel
theorem dX0_copyFrom_123 : decode cX0_copyFrom 123 = .ok (.iconst 0, 1) := by decide +kernel
theorem dX0_copyFrom_124 : decode cX0_copyFrom 124 = .ok (.aload_n 0, 1) := by decide +kernel
theorem dX0_copyFrom_125 : decode cX0_copyFrom 125 = .ok (.getfield 34, 3) := by decide +kernel
theorem dX0_copyFrom_128 : decode cX0_copyFrom 128 = .ok (.iconst 0, 1) := by decide +kernel
theorem dX0_copyFrom_129 : decode cX0_copyFrom 129 = .ok (.bipush 6, 2) := by decide +kernel
theorem dX0_copyFrom_131 : decode cX0_copyFrom 131 = .ok (.invokestatic 47, 3) := by decide +kernel
theorem dX0_copyFrom_134 : decode cX0_copyFrom 134 = .ok (.aload_n 1, 1) := by decide +kernel
theorem dX0_copyFrom_135 : decode cX0_copyFrom 135 = .ok (.getfield 37, 3) := by decide +kernel
theorem dX0_copyFrom_138 : decode cX0_copyFrom 138 = .ok (.iconst 0, 1) := by decide +kernel
theorem dX0_copyFrom_139 : decode cX0_copyFrom 139 = .ok (.aload_n 0, 1) := by decide +kernel
theorem dX0_copyFrom_140 : decode cX0_copyFrom 140 = .ok (.getfield 37, 3) := by decide +kernel
theorem dX0_copyFrom_143 : decode cX0_copyFrom 143 = .ok (.iconst 0, 1) := by decide +kernel
theorem dX0_copyFrom_144 : decode cX0_copyFrom 144 = .ok (.sipush 240, 3) := by decide +kernel
theorem dX0_copyFrom_147 : decode cX0_copyFrom 147 = .ok (.invokestatic 47, 3) := by decide +kernel
theorem dX0_copyFrom_150 : decode cX0_copyFrom 150 = .ok (.return_, 1) := by decide +kernel
theorem dX0_hasCard_0 : decode cX0_hasCard 0 = .ok (.iload_n 1, 1) := by decide +kernel
theorem dX0_hasCard_1 : decode cX0_hasCard 1 = .ok (.ifCond .lt 15, 3) := by decide +kernel
theorem dX0_hasCard_4 : decode cX0_hasCard 4 = .ok (.iload_n 1, 1) := by decide +kernel
theorem dX0_hasCard_5 : decode cX0_hasCard 5 = .ok (.aload_n 0, 1) := by decide +kernel
theorem dX0_hasCard_6 : decode cX0_hasCard 6 = .ok (.getfield 40, 3) := by decide +kernel
theorem dX0_hasCard_9 : decode cX0_hasCard 9 = .ok (.if_icmp .ge 7, 3) := by decide +kernel
theorem dX0_hasCard_12 : decode cX0_hasCard 12 = .ok (.iconst 1, 1) := by decide +kernel
theorem dX0_hasCard_13 : decode cX0_hasCard 13 = .ok (.goto 4, 3) := by decide +kernel
theorem dX0_hasCard_16 : decode cX0_hasCard 16 = .ok (.iconst 0, 1) := by decide +kernel
theorem dX0_hasCard_17 : decode cX0_hasCard 17 = .ok (.ireturn, 1) := by decide +kernel
theorem dX0_hasVersion_0 : decode cX0_hasVersion 0 = .ok (.iload_n 1, 1) := by decide +kernel
theorem dX0_hasVersion_1 : decode cX0_hasVersion 1 = .ok (.ifCond .lt 15, 3) := by decide +kernel
theorem dX0_hasVersion_4 : decode cX0_hasVersion 4 = .ok (.iload_n 1, 1) := by decide +kernel
theorem dX0_hasVersion_5 : decode cX0_hasVersion 5 = .ok (.aload_n 0, 1) := by decide +kernel
theorem dX0_hasVersion_6 : decode cX0_hasVersion 6 = .ok (.getfield 44, 3) := by decide +kernel
theorem dX0_hasVersion_9 : decode cX0_hasVersion 9 = .ok (.if_icmp .ge 7, 3) := by decide +kernel
theorem dX0_hasVersion_12 : decode cX0_hasVersion 12 = .ok (.iconst 1, 1) := by decide +kernel
theorem dX0_hasVersion_13 : decode cX0_hasVersion 13 = .ok (.goto 4, 3) := by decide +kernel
theorem dX0_hasVersion_16 : decode cX0_hasVersion 16 = .ok (.iconst 0, 1) := by decide +kernel
theorem dX0_hasVersion_17 : decode cX0_hasVersion 17 = .ok (.ireturn, 1) := by decide +kernel
theorem dX0_cardsInStage_0 : decode cX0_cardsInStage 0 = .ok (.iconst 0, 1) := by decide +kernel
theorem dX0_cardsInStage_1 : decode cX0_cardsInStage 1 = .ok (.istore_n 2, 1) := by decide +kernel
theorem dX0_cardsInStage_2 : decode cX0_cardsInStage 2 = .ok (.iconst 0, 1) := by decide +kernel
theorem dX0_cardsInStage_3 : decode cX0_cardsInStage 3 = .ok (.istore_n 3, 1) := by decide +kernel
theorem dX0_cardsInStage_4 : decode cX0_cardsInStage 4 = .ok (.iload_n 3, 1) := by decide +kernel
theorem dX0_cardsInStage_5 : decode cX0_cardsInStage 5 = .ok (.aload_n 0, 1) := by decide +kernel
theorem dX0_cardsInStage_6 : decode cX0_cardsInStage 6 = .ok (.getfield 40, 3) := by decide +kernel
theorem dX0_cardsInStage_9 : decode cX0_cardsInStage 9 = .ok (.if_icmp .ge 22, 3) := by decide +kernel
theorem dX0_cardsInStage_12 : decode cX0_cardsInStage 12 = .ok (.aload_n 0, 1) := by decide +kernel
theorem dX0_cardsInStage_13 : decode cX0_cardsInStage 13 = .ok (.getfield 18, 3) := by decide +kernel
theorem dX0_cardsInStage_16 : decode cX0_cardsInStage 16 = .ok (.iload_n 3, 1) := by decide +kernel
theorem dX0_cardsInStage_17 : decode cX0_cardsInStage 17 = .ok (.iaload, 1) := by decide +kernel
theorem dX0_cardsInStage_18 : decode cX0_cardsInStage 18 = .ok (.iload_n 1, 1) := by decide +kernel
theorem dX0_cardsInStage_19 : decode cX0_cardsInStage 19 = .ok (.if_icmp .ne 6, 3) := by decide +kernel
theorem dX0_cardsInStage_22 : decode cX0_cardsInStage 22 = .ok (.iinc 2 1, 3) := by decide +kernel
theorem dX0_cardsInStage_25 : decode cX0_cardsInStage 25 = .ok (.iinc 3 1, 3) := by decide +kernel
theorem dX0_cardsInStage_28 : decode cX0_cardsInStage 28 = .ok (.goto (-24), 3) := by decide +kernel
theorem dX0_cardsInStage_31 : decode cX0_cardsInStage 31 = .ok (.iload_n 2, 1) := by decide +kernel
theorem dX0_cardsInStage_32 : decode cX0_cardsInStage 32 = .ok (.ireturn, 1) := by decide +kernel
theorem dX0_cardsOf_0 : decode cX0_cardsOf 0 = .ok (.iconst 0, 1) := by decide +kernel
theorem dX0_cardsOf_1 : decode cX0_cardsOf 1 = .ok (.istore_n 3, 1) := by decide +kernel
theorem dX0_cardsOf_2 : decode cX0_cardsOf 2 = .ok (.iconst 0, 1) := by decide +kernel
theorem dX0_cardsOf_3 : decode cX0_cardsOf 3 = .ok (.istore 4, 2) := by decide +kernel
theorem dX0_cardsOf_5 : decode cX0_cardsOf 5 = .ok (.iload 4, 2) := by decide +kernel
theorem dX0_cardsOf_7 : decode cX0_cardsOf 7 = .ok (.iload_n 2, 1) := by decide +kernel
theorem dX0_cardsOf_8 : decode cX0_cardsOf 8 = .ok (.if_icmp .ge 32, 3) := by decide +kernel
theorem dX0_cardsOf_11 : decode cX0_cardsOf 11 = .ok (.iload 4, 2) := by decide +kernel
theorem dX0_cardsOf_13 : decode cX0_cardsOf 13 = .ok (.aload_n 0, 1) := by decide +kernel
theorem dX0_cardsOf_14 : decode cX0_cardsOf 14 = .ok (.getfield 40, 3) := by decide +kernel
theorem dX0_cardsOf_17 : decode cX0_cardsOf 17 = .ok (.if_icmp .ge 23, 3) := by decide +kernel
theorem dX0_cardsOf_20 : decode cX0_cardsOf 20 = .ok (.aload_n 0, 1) := by decide +kernel
theorem dX0_cardsOf_21 : decode cX0_cardsOf 21 = .ok (.getfield 9, 3) := by decide +kernel
theorem dX0_cardsOf_24 : decode cX0_cardsOf 24 = .ok (.iload 4, 2) := by decide +kernel
theorem dX0_cardsOf_26 : decode cX0_cardsOf 26 = .ok (.iaload, 1) := by decide +kernel
theorem dX0_cardsOf_27 : decode cX0_cardsOf 27 = .ok (.iload_n 1, 1) := by decide +kernel
theorem dX0_cardsOf_28 : decode cX0_cardsOf 28 = .ok (.if_icmp .ne 6, 3) := by decide +kernel
theorem dX0_cardsOf_31 : decode cX0_cardsOf 31 = .ok (.iinc 3 1, 3) := by decide +kernel
theorem dX0_cardsOf_34 : decode cX0_cardsOf 34 = .ok (.iinc 4 1, 3) := by decide +kernel
theorem dX0_cardsOf_37 : decode cX0_cardsOf 37 = .ok (.goto (-32), 3) := by decide +kernel
theorem dX0_cardsOf_40 : decode cX0_cardsOf 40 = .ok (.iload_n 3, 1) := by decide +kernel
theorem dX0_cardsOf_41 : decode cX0_cardsOf 41 = .ok (.ireturn, 1) := by decide +kernel
theorem dX0_cardsIn_0 : decode cX0_cardsIn 0 = .ok (.aload_n 0, 1) := by decide +kernel
theorem dX0_cardsIn_1 : decode cX0_cardsIn 1 = .ok (.iload_n 1, 1) := by decide +kernel
theorem dX0_cardsIn_2 : decode cX0_cardsIn 2 = .ok (.invokevirtual 53, 3) := by decide +kernel
theorem dX0_cardsIn_5 : decode cX0_cardsIn 5 = .ok (.ifCond .eq 12, 3) := by decide +kernel
theorem dX0_cardsIn_8 : decode cX0_cardsIn 8 = .ok (.aload_n 0, 1) := by decide +kernel
theorem dX0_cardsIn_9 : decode cX0_cardsIn 9 = .ok (.getfield 34, 3) := by decide +kernel
theorem dX0_cardsIn_12 : decode cX0_cardsIn 12 = .ok (.iload_n 1, 1) := by decide +kernel
theorem dX0_cardsIn_13 : decode cX0_cardsIn 13 = .ok (.iaload, 1) := by decide +kernel
theorem dX0_cardsIn_14 : decode cX0_cardsIn 14 = .ok (.goto 7, 3) := by decide +kernel
theorem dX0_cardsIn_17 : decode cX0_cardsIn 17 = .ok (.aload_n 0, 1) := by decide +kernel
theorem dX0_cardsIn_18 : decode cX0_cardsIn 18 = .ok (.getfield 40, 3) := by decide +kernel
theorem dX0_cardsIn_21 : decode cX0_cardsIn 21 = .ok (.ireturn, 1) := by decide +kernel
theorem dX0_outcomesIn_0 : decode cX0_outcomesIn 0 = .ok (.aload_n 0, 1) := by decide +kernel
theorem dX0_outcomesIn_1 : decode cX0_outcomesIn 1 = .ok (.iload_n 1, 1) := by decide +kernel
theorem dX0_outcomesIn_2 : decode cX0_outcomesIn 2 = .ok (.invokevirtual 53, 3) := by decide +kernel
theorem dX0_outcomesIn_5 : decode cX0_outcomesIn 5 = .ok (.ifCond .eq 25, 3) := by decide +kernel
theorem dX0_outcomesIn_8 : decode cX0_outcomesIn 8 = .ok (.aload_n 0, 1) := by decide +kernel
theorem dX0_outcomesIn_9 : decode cX0_outcomesIn 9 = .ok (.iload_n 2, 1) := by decide +kernel
theorem dX0_outcomesIn_10 : decode cX0_outcomesIn 10 = .ok (.invokevirtual 57, 3) := by decide +kernel
theorem dX0_outcomesIn_13 : decode cX0_outcomesIn 13 = .ok (.ifCond .eq 17, 3) := by decide +kernel
theorem dX0_outcomesIn_16 : decode cX0_outcomesIn 16 = .ok (.aload_n 0, 1) := by decide +kernel
theorem dX0_outcomesIn_17 : decode cX0_outcomesIn 17 = .ok (.getfield 37, 3) := by decide +kernel
theorem dX0_outcomesIn_20 : decode cX0_outcomesIn 20 = .ok (.iload_n 1, 1) := by decide +kernel
theorem dX0_outcomesIn_21 : decode cX0_outcomesIn 21 = .ok (.bipush 40, 2) := by decide +kernel
theorem dX0_outcomesIn_23 : decode cX0_outcomesIn 23 = .ok (.imul, 1) := by decide +kernel
theorem dX0_outcomesIn_24 : decode cX0_outcomesIn 24 = .ok (.iload_n 2, 1) := by decide +kernel
theorem dX0_outcomesIn_25 : decode cX0_outcomesIn 25 = .ok (.iadd, 1) := by decide +kernel
theorem dX0_outcomesIn_26 : decode cX0_outcomesIn 26 = .ok (.iaload, 1) := by decide +kernel
theorem dX0_outcomesIn_27 : decode cX0_outcomesIn 27 = .ok (.goto 4, 3) := by decide +kernel
theorem dX0_outcomesIn_30 : decode cX0_outcomesIn 30 = .ok (.iconst 0, 1) := by decide +kernel
theorem dX0_outcomesIn_31 : decode cX0_outcomesIn 31 = .ok (.ireturn, 1) := by decide +kernel
theorem dX0_keepVersion_0 : decode cX0_keepVersion 0 = .ok (.aload_n 0, 1) := by decide +kernel
theorem dX0_keepVersion_1 : decode cX0_keepVersion 1 = .ok (.getfield 44, 3) := by decide +kernel
theorem dX0_keepVersion_4 : decode cX0_keepVersion 4 = .ok (.bipush 6, 2) := by decide +kernel
theorem dX0_keepVersion_6 : decode cX0_keepVersion 6 = .ok (.if_icmp .ge 12, 3) := by decide +kernel
theorem dX0_keepVersion_9 : decode cX0_keepVersion 9 = .ok (.aload_n 1, 1) := by decide +kernel
theorem dX0_keepVersion_10 : decode cX0_keepVersion 10 = .ok (.arraylength, 1) := by decide +kernel
theorem dX0_keepVersion_11 : decode cX0_keepVersion 11 = .ok (.aload_n 0, 1) := by decide +kernel
theorem dX0_keepVersion_12 : decode cX0_keepVersion 12 = .ok (.getfield 40, 3) := by decide +kernel
theorem dX0_keepVersion_15 : decode cX0_keepVersion 15 = .ok (.if_icmp .ge 4, 3) := by decide +kernel
theorem dX0_keepVersion_18 : decode cX0_keepVersion 18 = .ok (.return_, 1) := by decide +kernel
theorem dX0_keepVersion_19 : decode cX0_keepVersion 19 = .ok (.aload_n 1, 1) := by decide +kernel
theorem dX0_keepVersion_20 : decode cX0_keepVersion 20 = .ok (.iconst 0, 1) := by decide +kernel
theorem dX0_keepVersion_21 : decode cX0_keepVersion 21 = .ok (.aload_n 0, 1) := by decide +kernel
theorem dX0_keepVersion_22 : decode cX0_keepVersion 22 = .ok (.getfield 37, 3) := by decide +kernel
theorem dX0_keepVersion_25 : decode cX0_keepVersion 25 = .ok (.aload_n 0, 1) := by decide +kernel
theorem dX0_keepVersion_26 : decode cX0_keepVersion 26 = .ok (.getfield 44, 3) := by decide +kernel
theorem dX0_keepVersion_29 : decode cX0_keepVersion 29 = .ok (.bipush 40, 2) := by decide +kernel
theorem dX0_keepVersion_31 : decode cX0_keepVersion 31 = .ok (.imul, 1) := by decide +kernel
theorem dX0_keepVersion_32 : decode cX0_keepVersion 32 = .ok (.aload_n 0, 1) := by decide +kernel
theorem dX0_keepVersion_33 : decode cX0_keepVersion 33 = .ok (.getfield 40, 3) := by decide +kernel
theorem dX0_keepVersion_36 : decode cX0_keepVersion 36 = .ok (.invokestatic 47, 3) := by decide +kernel
theorem dX0_keepVersion_39 : decode cX0_keepVersion 39 = .ok (.aload_n 0, 1) := by decide +kernel
theorem dX0_keepVersion_40 : decode cX0_keepVersion 40 = .ok (.getfield 34, 3) := by decide +kernel
theorem dX0_keepVersion_43 : decode cX0_keepVersion 43 = .ok (.aload_n 0, 1) := by decide +kernel
theorem dX0_keepVersion_44 : decode cX0_keepVersion 44 = .ok (.getfield 44, 3) := by decide +kernel
theorem dX0_keepVersion_47 : decode cX0_keepVersion 47 = .ok (.aload_n 0, 1) := by decide +kernel
theorem dX0_keepVersion_48 : decode cX0_keepVersion 48 = .ok (.getfield 40, 3) := by decide +kernel
theorem dX0_keepVersion_51 : decode cX0_keepVersion 51 = .ok (.iastore, 1) := by decide +kernel
theorem dX0_keepVersion_52 : decode cX0_keepVersion 52 = .ok (.aload_n 0, 1) := by decide +kernel
theorem dX0_keepVersion_53 : decode cX0_keepVersion 53 = .ok (.dup, 1) := by decide +kernel
theorem dX0_keepVersion_54 : decode cX0_keepVersion 54 = .ok (.getfield 44, 3) := by decide +kernel
theorem dX0_keepVersion_57 : decode cX0_keepVersion 57 = .ok (.iconst 1, 1) := by decide +kernel
theorem dX0_keepVersion_58 : decode cX0_keepVersion 58 = .ok (.iadd, 1) := by decide +kernel
theorem dX0_keepVersion_59 : decode cX0_keepVersion 59 = .ok (.putfield 44, 3) := by decide +kernel
theorem dX0_keepVersion_62 : decode cX0_keepVersion 62 = .ok (.return_, 1) := by decide +kernel
theorem dX0_changesIn_0 : decode cX0_changesIn 0 = .ok (.iload_n 1, 1) := by decide +kernel
theorem dX0_changesIn_1 : decode cX0_changesIn 1 = .ok (.iconst 1, 1) := by decide +kernel
theorem dX0_changesIn_2 : decode cX0_changesIn 2 = .ok (.if_icmp .lt 14, 3) := by decide +kernel
theorem dX0_changesIn_5 : decode cX0_changesIn 5 = .ok (.iload_n 2, 1) := by decide +kernel
theorem dX0_changesIn_6 : decode cX0_changesIn 6 = .ok (.aload_n 0, 1) := by decide +kernel
theorem dX0_changesIn_7 : decode cX0_changesIn 7 = .ok (.iload_n 1, 1) := by decide +kernel
theorem dX0_changesIn_8 : decode cX0_changesIn 8 = .ok (.iconst 1, 1) := by decide +kernel
theorem dX0_changesIn_9 : decode cX0_changesIn 9 = .ok (.isub, 1) := by decide +kernel
theorem dX0_changesIn_10 : decode cX0_changesIn 10 = .ok (.invokevirtual 60, 3) := by decide +kernel
theorem dX0_changesIn_13 : decode cX0_changesIn 13 = .ok (.if_icmp .lt 5, 3) := by decide +kernel
theorem dX0_changesIn_16 : decode cX0_changesIn 16 = .ok (.iconst 0, 1) := by decide +kernel
theorem dX0_changesIn_17 : decode cX0_changesIn 17 = .ok (.ireturn, 1) := by decide +kernel
theorem dX0_changesIn_18 : decode cX0_changesIn 18 = .ok (.aload_n 0, 1) := by decide +kernel
theorem dX0_changesIn_19 : decode cX0_changesIn 19 = .ok (.iload_n 1, 1) := by decide +kernel
theorem dX0_changesIn_20 : decode cX0_changesIn 20 = .ok (.iconst 1, 1) := by decide +kernel
theorem dX0_changesIn_21 : decode cX0_changesIn 21 = .ok (.isub, 1) := by decide +kernel
theorem dX0_changesIn_22 : decode cX0_changesIn 22 = .ok (.iload_n 2, 1) := by decide +kernel
theorem dX0_changesIn_23 : decode cX0_changesIn 23 = .ok (.invokevirtual 64, 3) := by decide +kernel
theorem dX0_changesIn_26 : decode cX0_changesIn 26 = .ok (.aload_n 0, 1) := by decide +kernel
theorem dX0_changesIn_27 : decode cX0_changesIn 27 = .ok (.iload_n 1, 1) := by decide +kernel
theorem dX0_changesIn_28 : decode cX0_changesIn 28 = .ok (.iload_n 2, 1) := by decide +kernel
theorem dX0_changesIn_29 : decode cX0_changesIn 29 = .ok (.invokevirtual 64, 3) := by decide +kernel
theorem dX0_changesIn_32 : decode cX0_changesIn 32 = .ok (.invokestatic 68, 3) := by decide +kernel
theorem dX0_changesIn_35 : decode cX0_changesIn 35 = .ok (.ireturn, 1) := by decide +kernel
theorem dX0_changedCard_0 : decode cX0_changedCard 0 = .ok (.iconst 0, 1) := by decide +kernel
theorem dX0_changedCard_1 : decode cX0_changedCard 1 = .ok (.istore_n 3, 1) := by decide +kernel
theorem dX0_changedCard_2 : decode cX0_changedCard 2 = .ok (.iconst 0, 1) := by decide +kernel
theorem dX0_changedCard_3 : decode cX0_changedCard 3 = .ok (.istore 4, 2) := by decide +kernel
theorem dX0_changedCard_5 : decode cX0_changedCard 5 = .ok (.iload 4, 2) := by decide +kernel
theorem dX0_changedCard_7 : decode cX0_changedCard 7 = .ok (.aload_n 0, 1) := by decide +kernel
theorem dX0_changedCard_8 : decode cX0_changedCard 8 = .ok (.getfield 40, 3) := by decide +kernel
theorem dX0_changedCard_11 : decode cX0_changedCard 11 = .ok (.if_icmp .ge 33, 3) := by decide +kernel
theorem dX0_changedCard_14 : decode cX0_changedCard 14 = .ok (.aload_n 0, 1) := by decide +kernel
theorem dX0_changedCard_15 : decode cX0_changedCard 15 = .ok (.iload_n 1, 1) := by decide +kernel
theorem dX0_changedCard_16 : decode cX0_changedCard 16 = .ok (.iload 4, 2) := by decide +kernel
theorem dX0_changedCard_18 : decode cX0_changedCard 18 = .ok (.invokevirtual 71, 3) := by decide +kernel
theorem dX0_changedCard_21 : decode cX0_changedCard 21 = .ok (.ifCond .ne 6, 3) := by decide +kernel
theorem dX0_changedCard_24 : decode cX0_changedCard 24 = .ok (.goto 14, 3) := by decide +kernel
theorem dX0_changedCard_27 : decode cX0_changedCard 27 = .ok (.iload_n 3, 1) := by decide +kernel
theorem dX0_changedCard_28 : decode cX0_changedCard 28 = .ok (.iload_n 2, 1) := by decide +kernel
theorem dX0_changedCard_29 : decode cX0_changedCard 29 = .ok (.if_icmp .ne 6, 3) := by decide +kernel
theorem dX0_changedCard_32 : decode cX0_changedCard 32 = .ok (.iload 4, 2) := by decide +kernel
theorem dX0_changedCard_34 : decode cX0_changedCard 34 = .ok (.ireturn, 1) := by decide +kernel
theorem dX0_changedCard_35 : decode cX0_changedCard 35 = .ok (.iinc 3 1, 3) := by decide +kernel
theorem dX0_changedCard_38 : decode cX0_changedCard 38 = .ok (.iinc 4 1, 3) := by decide +kernel
theorem dX0_changedCard_41 : decode cX0_changedCard 41 = .ok (.goto (-36), 3) := by decide +kernel
theorem dX0_changedCard_44 : decode cX0_changedCard 44 = .ok (.bipush (-9), 2) := by decide +kernel
theorem dX0_changedCard_46 : decode cX0_changedCard 46 = .ok (.ireturn, 1) := by decide +kernel
theorem dX1_init_0 : decode cX1_init 0 = .ok (.aload_n 0, 1) := by decide +kernel
theorem dX1_init_1 : decode cX1_init 1 = .ok (.invokespecial 3, 3) := by decide +kernel
theorem dX1_init_4 : decode cX1_init 4 = .ok (.aload_n 0, 1) := by decide +kernel
theorem dX1_init_5 : decode cX1_init 5 = .ok (.new 9, 3) := by decide +kernel
theorem dX1_init_8 : decode cX1_init 8 = .ok (.dup, 1) := by decide +kernel
theorem dX1_init_9 : decode cX1_init 9 = .ok (.invokespecial 11, 3) := by decide +kernel
theorem dX1_init_12 : decode cX1_init 12 = .ok (.putfield 12, 3) := by decide +kernel
theorem dX1_init_15 : decode cX1_init 15 = .ok (.aload_n 0, 1) := by decide +kernel
theorem dX1_init_16 : decode cX1_init 16 = .ok (.aload_n 0, 1) := by decide +kernel
theorem dX1_init_17 : decode cX1_init 17 = .ok (.getfield 12, 3) := by decide +kernel
theorem dX1_init_20 : decode cX1_init 20 = .ok (.getfield 18, 3) := by decide +kernel
theorem dX1_init_23 : decode cX1_init 23 = .ok (.putfield 22, 3) := by decide +kernel
theorem dX1_init_26 : decode cX1_init 26 = .ok (.return_, 1) := by decide +kernel
theorem dX1_obey_0 : decode cX1_obey 0 = .ok (.iload_n 1, 1) := by decide +kernel
theorem dX1_obey_1 : decode cX1_obey 1 = .ok (.tableswitch 66 0 3 #[31, 40, 47, 57], 31) := by decide +kernel
theorem dX1_obey_32 : decode cX1_obey 32 = .ok (.aload_n 0, 1) := by decide +kernel
theorem dX1_obey_33 : decode cX1_obey 33 = .ok (.lload_n 2, 1) := by decide +kernel
theorem dX1_obey_34 : decode cX1_obey 34 = .ok (.l2i, 1) := by decide +kernel
theorem dX1_obey_35 : decode cX1_obey 35 = .ok (.lload 4, 2) := by decide +kernel
theorem dX1_obey_37 : decode cX1_obey 37 = .ok (.invokevirtual 23, 3) := by decide +kernel
theorem dX1_obey_40 : decode cX1_obey 40 = .ok (.ireturn, 1) := by decide +kernel
theorem dX1_obey_41 : decode cX1_obey 41 = .ok (.aload_n 0, 1) := by decide +kernel
theorem dX1_obey_42 : decode cX1_obey 42 = .ok (.lload_n 2, 1) := by decide +kernel
theorem dX1_obey_43 : decode cX1_obey 43 = .ok (.l2i, 1) := by decide +kernel
theorem dX1_obey_44 : decode cX1_obey 44 = .ok (.invokevirtual 27, 3) := by decide +kernel
theorem dX1_obey_47 : decode cX1_obey 47 = .ok (.ireturn, 1) := by decide +kernel
theorem dX1_obey_48 : decode cX1_obey 48 = .ok (.aload_n 0, 1) := by decide +kernel
theorem dX1_obey_49 : decode cX1_obey 49 = .ok (.lload_n 2, 1) := by decide +kernel
theorem dX1_obey_50 : decode cX1_obey 50 = .ok (.l2i, 1) := by decide +kernel
theorem dX1_obey_51 : decode cX1_obey 51 = .ok (.lload 4, 2) := by decide +kernel
theorem dX1_obey_53 : decode cX1_obey 53 = .ok (.l2i, 1) := by decide +kernel
theorem dX1_obey_54 : decode cX1_obey 54 = .ok (.invokevirtual 31, 3) := by decide +kernel
theorem dX1_obey_57 : decode cX1_obey 57 = .ok (.ireturn, 1) := by decide +kernel
theorem dX1_obey_58 : decode cX1_obey 58 = .ok (.aload_n 0, 1) := by decide +kernel
theorem dX1_obey_59 : decode cX1_obey 59 = .ok (.lload_n 2, 1) := by decide +kernel
theorem dX1_obey_60 : decode cX1_obey 60 = .ok (.l2i, 1) := by decide +kernel
theorem dX1_obey_61 : decode cX1_obey 61 = .ok (.lload 4, 2) := by decide +kernel
theorem dX1_obey_63 : decode cX1_obey 63 = .ok (.invokevirtual 35, 3) := by decide +kernel
theorem dX1_obey_66 : decode cX1_obey 66 = .ok (.ireturn, 1) := by decide +kernel
theorem dX1_obey_67 : decode cX1_obey 67 = .ok (.aload_n 0, 1) := by decide +kernel
theorem dX1_obey_68 : decode cX1_obey 68 = .ok (.invokevirtual 38, 3) := by decide +kernel
theorem dX1_obey_71 : decode cX1_obey 71 = .ok (.ireturn, 1) := by decide +kernel
theorem dX1_addCard_0 : decode cX1_addCard 0 = .ok (.iload_n 1, 1) := by decide +kernel
theorem dX1_addCard_1 : decode cX1_addCard 1 = .ok (.iconst 0, 1) := by decide +kernel
theorem dX1_addCard_2 : decode cX1_addCard 2 = .ok (.iconst 2, 1) := by decide +kernel
theorem dX1_addCard_3 : decode cX1_addCard 3 = .ok (.invokestatic 42, 3) := by decide +kernel
theorem dX1_addCard_6 : decode cX1_addCard 6 = .ok (.ifCond .eq 10, 3) := by decide +kernel
theorem dX1_addCard_9 : decode cX1_addCard 9 = .ok (.lload_n 2, 1) := by decide +kernel
theorem dX1_addCard_10 : decode cX1_addCard 10 = .ok (.invokestatic 46, 3) := by decide +kernel
theorem dX1_addCard_13 : decode cX1_addCard 13 = .ok (.ifCond .ne 5, 3) := by decide +kernel
theorem dX1_addCard_16 : decode cX1_addCard 16 = .ok (.iconst (-1), 1) := by decide +kernel
theorem dX1_addCard_17 : decode cX1_addCard 17 = .ok (.ireturn, 1) := by decide +kernel
theorem dX1_addCard_18 : decode cX1_addCard 18 = .ok (.aload_n 0, 1) := by decide +kernel
theorem dX1_addCard_19 : decode cX1_addCard 19 = .ok (.getfield 22, 3) := by decide +kernel
theorem dX1_addCard_22 : decode cX1_addCard 22 = .ok (.getfield 50, 3) := by decide +kernel
theorem dX1_addCard_25 : decode cX1_addCard 25 = .ok (.istore 4, 2) := by decide +kernel
theorem dX1_addCard_27 : decode cX1_addCard 27 = .ok (.iload 4, 2) := by decide +kernel
theorem dX1_addCard_29 : decode cX1_addCard 29 = .ok (.bipush 40, 2) := by decide +kernel
theorem dX1_addCard_31 : decode cX1_addCard 31 = .ok (.if_icmp .lt 6, 3) := by decide +kernel
theorem dX1_addCard_34 : decode cX1_addCard 34 = .ok (.bipush (-3), 2) := by decide +kernel
theorem dX1_addCard_36 : decode cX1_addCard 36 = .ok (.ireturn, 1) := by decide +kernel
theorem dX1_addCard_37 : decode cX1_addCard 37 = .ok (.aload_n 0, 1) := by decide +kernel
theorem dX1_addCard_38 : decode cX1_addCard 38 = .ok (.getfield 22, 3) := by decide +kernel
theorem dX1_addCard_41 : decode cX1_addCard 41 = .ok (.getfield 56, 3) := by decide +kernel
theorem dX1_addCard_44 : decode cX1_addCard 44 = .ok (.iload 4, 2) := by decide +kernel
theorem dX1_addCard_46 : decode cX1_addCard 46 = .ok (.iload_n 1, 1) := by decide +kernel
theorem dX1_addCard_47 : decode cX1_addCard 47 = .ok (.iastore, 1) := by decide +kernel
theorem dX1_addCard_48 : decode cX1_addCard 48 = .ok (.aload_n 0, 1) := by decide +kernel
theorem dX1_addCard_49 : decode cX1_addCard 49 = .ok (.getfield 22, 3) := by decide +kernel
theorem dX1_addCard_52 : decode cX1_addCard 52 = .ok (.getfield 60, 3) := by decide +kernel
theorem dX1_addCard_55 : decode cX1_addCard 55 = .ok (.iload 4, 2) := by decide +kernel
theorem dX1_addCard_57 : decode cX1_addCard 57 = .ok (.lload_n 2, 1) := by decide +kernel
theorem dX1_addCard_58 : decode cX1_addCard 58 = .ok (.lastore, 1) := by decide +kernel
theorem dX1_addCard_59 : decode cX1_addCard 59 = .ok (.aload_n 0, 1) := by decide +kernel
theorem dX1_addCard_60 : decode cX1_addCard 60 = .ok (.getfield 22, 3) := by decide +kernel
theorem dX1_addCard_63 : decode cX1_addCard 63 = .ok (.getfield 64, 3) := by decide +kernel
theorem dX1_addCard_66 : decode cX1_addCard 66 = .ok (.iload 4, 2) := by decide +kernel
theorem dX1_addCard_68 : decode cX1_addCard 68 = .ok (.lconst 0, 1) := by decide +kernel
theorem dX1_addCard_69 : decode cX1_addCard 69 = .ok (.lastore, 1) := by decide +kernel
theorem dX1_addCard_70 : decode cX1_addCard 70 = .ok (.aload_n 0, 1) := by decide +kernel
theorem dX1_addCard_71 : decode cX1_addCard 71 = .ok (.getfield 22, 3) := by decide +kernel
theorem dX1_addCard_74 : decode cX1_addCard 74 = .ok (.getfield 67, 3) := by decide +kernel
theorem dX1_addCard_77 : decode cX1_addCard 77 = .ok (.iload 4, 2) := by decide +kernel
theorem dX1_addCard_79 : decode cX1_addCard 79 = .ok (.iconst 0, 1) := by decide +kernel
theorem dX1_addCard_80 : decode cX1_addCard 80 = .ok (.iastore, 1) := by decide +kernel
theorem dX1_addCard_81 : decode cX1_addCard 81 = .ok (.aload_n 0, 1) := by decide +kernel
theorem dX1_addCard_82 : decode cX1_addCard 82 = .ok (.getfield 22, 3) := by decide +kernel
theorem dX1_addCard_85 : decode cX1_addCard 85 = .ok (.getfield 70, 3) := by decide +kernel
theorem dX1_addCard_88 : decode cX1_addCard 88 = .ok (.iload 4, 2) := by decide +kernel
theorem dX1_addCard_90 : decode cX1_addCard 90 = .ok (.aload_n 0, 1) := by decide +kernel
theorem dX1_addCard_91 : decode cX1_addCard 91 = .ok (.getfield 22, 3) := by decide +kernel
theorem dX1_addCard_94 : decode cX1_addCard 94 = .ok (.getfield 73, 3) := by decide +kernel
theorem dX1_addCard_97 : decode cX1_addCard 97 = .ok (.iload_n 1, 1) := by decide +kernel
theorem dX1_addCard_98 : decode cX1_addCard 98 = .ok (.iaload, 1) := by decide +kernel
theorem dX1_addCard_99 : decode cX1_addCard 99 = .ok (.iastore, 1) := by decide +kernel
theorem dX1_addCard_100 : decode cX1_addCard 100 = .ok (.aload_n 0, 1) := by decide +kernel
theorem dX1_addCard_101 : decode cX1_addCard 101 = .ok (.getfield 22, 3) := by decide +kernel
theorem dX1_addCard_104 : decode cX1_addCard 104 = .ok (.iload 4, 2) := by decide +kernel
theorem dX1_addCard_106 : decode cX1_addCard 106 = .ok (.iconst 1, 1) := by decide +kernel
theorem dX1_addCard_107 : decode cX1_addCard 107 = .ok (.iadd, 1) := by decide +kernel
theorem dX1_addCard_108 : decode cX1_addCard 108 = .ok (.putfield 50, 3) := by decide +kernel
theorem dX1_addCard_111 : decode cX1_addCard 111 = .ok (.iload 4, 2) := by decide +kernel
theorem dX1_addCard_113 : decode cX1_addCard 113 = .ok (.ireturn, 1) := by decide +kernel
theorem dX1_cleanMachine_0 : decode cX1_cleanMachine 0 = .ok (.iload_n 1, 1) := by decide +kernel
theorem dX1_cleanMachine_1 : decode cX1_cleanMachine 1 = .ok (.iconst 0, 1) := by decide +kernel
theorem dX1_cleanMachine_2 : decode cX1_cleanMachine 2 = .ok (.iconst 2, 1) := by decide +kernel
theorem dX1_cleanMachine_3 : decode cX1_cleanMachine 3 = .ok (.invokestatic 42, 3) := by decide +kernel
theorem dX1_cleanMachine_6 : decode cX1_cleanMachine 6 = .ok (.ifCond .ne 5, 3) := by decide +kernel
theorem dX1_cleanMachine_9 : decode cX1_cleanMachine 9 = .ok (.iconst (-1), 1) := by decide +kernel
theorem dX1_cleanMachine_10 : decode cX1_cleanMachine 10 = .ok (.ireturn, 1) := by decide +kernel
theorem dX1_cleanMachine_11 : decode cX1_cleanMachine 11 = .ok (.aload_n 0, 1) := by decide +kernel
theorem dX1_cleanMachine_12 : decode cX1_cleanMachine 12 = .ok (.getfield 22, 3) := by decide +kernel
theorem dX1_cleanMachine_15 : decode cX1_cleanMachine 15 = .ok (.getfield 73, 3) := by decide +kernel
theorem dX1_cleanMachine_18 : decode cX1_cleanMachine 18 = .ok (.iload_n 1, 1) := by decide +kernel
theorem dX1_cleanMachine_19 : decode cX1_cleanMachine 19 = .ok (.dup2, 1) := by decide +kernel
theorem dX1_cleanMachine_20 : decode cX1_cleanMachine 20 = .ok (.iaload, 1) := by decide +kernel
theorem dX1_cleanMachine_21 : decode cX1_cleanMachine 21 = .ok (.iconst 1, 1) := by decide +kernel
theorem dX1_cleanMachine_22 : decode cX1_cleanMachine 22 = .ok (.iadd, 1) := by decide +kernel
theorem dX1_cleanMachine_23 : decode cX1_cleanMachine 23 = .ok (.iastore, 1) := by decide +kernel
theorem dX1_cleanMachine_24 : decode cX1_cleanMachine 24 = .ok (.aload_n 0, 1) := by decide +kernel
theorem dX1_cleanMachine_25 : decode cX1_cleanMachine 25 = .ok (.getfield 22, 3) := by decide +kernel
theorem dX1_cleanMachine_28 : decode cX1_cleanMachine 28 = .ok (.iload_n 1, 1) := by decide +kernel
theorem dX1_cleanMachine_29 : decode cX1_cleanMachine 29 = .ok (.aload_n 0, 1) := by decide +kernel
theorem dX1_cleanMachine_30 : decode cX1_cleanMachine 30 = .ok (.getfield 22, 3) := by decide +kernel
theorem dX1_cleanMachine_33 : decode cX1_cleanMachine 33 = .ok (.getfield 50, 3) := by decide +kernel
theorem dX1_cleanMachine_36 : decode cX1_cleanMachine 36 = .ok (.invokevirtual 76, 3) := by decide +kernel
theorem dX1_cleanMachine_39 : decode cX1_cleanMachine 39 = .ok (.ireturn, 1) := by decide +kernel
theorem dX1_setNumber_0 : decode cX1_setNumber 0 = .ok (.iload_n 1, 1) := by decide +kernel
theorem dX1_setNumber_1 : decode cX1_setNumber 1 = .ok (.iconst 0, 1) := by decide +kernel
theorem dX1_setNumber_2 : decode cX1_setNumber 2 = .ok (.iconst 3, 1) := by decide +kernel
theorem dX1_setNumber_3 : decode cX1_setNumber 3 = .ok (.invokestatic 42, 3) := by decide +kernel
theorem dX1_setNumber_6 : decode cX1_setNumber 6 = .ok (.ifCond .eq 20, 3) := by decide +kernel
theorem dX1_setNumber_9 : decode cX1_setNumber 9 = .ok (.iload_n 2, 1) := by decide +kernel
theorem dX1_setNumber_10 : decode cX1_setNumber 10 = .ok (.getstatic 79, 3) := by decide +kernel
theorem dX1_setNumber_13 : decode cX1_setNumber 13 = .ok (.iload_n 1, 1) := by decide +kernel
theorem dX1_setNumber_14 : decode cX1_setNumber 14 = .ok (.iaload, 1) := by decide +kernel
theorem dX1_setNumber_15 : decode cX1_setNumber 15 = .ok (.getstatic 82, 3) := by decide +kernel
theorem dX1_setNumber_18 : decode cX1_setNumber 18 = .ok (.iload_n 1, 1) := by decide +kernel
theorem dX1_setNumber_19 : decode cX1_setNumber 19 = .ok (.iaload, 1) := by decide +kernel
theorem dX1_setNumber_20 : decode cX1_setNumber 20 = .ok (.invokestatic 42, 3) := by decide +kernel
theorem dX1_setNumber_23 : decode cX1_setNumber 23 = .ok (.ifCond .ne 5, 3) := by decide +kernel
theorem dX1_setNumber_26 : decode cX1_setNumber 26 = .ok (.iconst (-1), 1) := by decide +kernel
theorem dX1_setNumber_27 : decode cX1_setNumber 27 = .ok (.ireturn, 1) := by decide +kernel
theorem dX1_setNumber_28 : decode cX1_setNumber 28 = .ok (.aload_n 0, 1) := by decide +kernel
theorem dX1_setNumber_29 : decode cX1_setNumber 29 = .ok (.getfield 22, 3) := by decide +kernel
theorem dX1_setNumber_32 : decode cX1_setNumber 32 = .ok (.getfield 85, 3) := by decide +kernel
theorem dX1_setNumber_35 : decode cX1_setNumber 35 = .ok (.iload_n 1, 1) := by decide +kernel
theorem dX1_setNumber_36 : decode cX1_setNumber 36 = .ok (.iaload, 1) := by decide +kernel
theorem dX1_setNumber_37 : decode cX1_setNumber 37 = .ok (.istore_n 3, 1) := by decide +kernel
theorem dX1_setNumber_38 : decode cX1_setNumber 38 = .ok (.aload_n 0, 1) := by decide +kernel
theorem dX1_setNumber_39 : decode cX1_setNumber 39 = .ok (.getfield 22, 3) := by decide +kernel
theorem dX1_setNumber_42 : decode cX1_setNumber 42 = .ok (.getfield 85, 3) := by decide +kernel
theorem dX1_setNumber_45 : decode cX1_setNumber 45 = .ok (.iload_n 1, 1) := by decide +kernel
theorem dX1_setNumber_46 : decode cX1_setNumber 46 = .ok (.iload_n 2, 1) := by decide +kernel
theorem dX1_setNumber_47 : decode cX1_setNumber 47 = .ok (.iastore, 1) := by decide +kernel
theorem dX1_setNumber_48 : decode cX1_setNumber 48 = .ok (.iload_n 3, 1) := by decide +kernel
theorem dX1_setNumber_49 : decode cX1_setNumber 49 = .ok (.ireturn, 1) := by decide +kernel
theorem dX1_publishVersion_0 : decode cX1_publishVersion 0 = .ok (.aload_n 0, 1) := by decide +kernel
theorem dX1_publishVersion_1 : decode cX1_publishVersion 1 = .ok (.getfield 12, 3) := by decide +kernel
theorem dX1_publishVersion_4 : decode cX1_publishVersion 4 = .ok (.invokevirtual 88, 3) := by decide +kernel
theorem dX1_publishVersion_7 : decode cX1_publishVersion 7 = .ok (.aload_n 0, 1) := by decide +kernel
theorem dX1_publishVersion_8 : decode cX1_publishVersion 8 = .ok (.getfield 22, 3) := by decide +kernel
theorem dX1_publishVersion_11 : decode cX1_publishVersion 11 = .ok (.getfield 50, 3) := by decide +kernel
theorem dX1_publishVersion_14 : decode cX1_publishVersion 14 = .ok (.ifCond .eq 22, 3) := by decide +kernel
theorem dX1_publishVersion_17 : decode cX1_publishVersion 17 = .ok (.aload_n 0, 1) := by decide +kernel
theorem dX1_publishVersion_18 : decode cX1_publishVersion 18 = .ok (.getfield 12, 3) := by decide +kernel
theorem dX1_publishVersion_21 : decode cX1_publishVersion 21 = .ok (.invokevirtual 91, 3) := by decide +kernel
theorem dX1_publishVersion_24 : decode cX1_publishVersion 24 = .ok (.aload_n 0, 1) := by decide +kernel
theorem dX1_publishVersion_25 : decode cX1_publishVersion 25 = .ok (.getfield 22, 3) := by decide +kernel
theorem dX1_publishVersion_28 : decode cX1_publishVersion 28 = .ok (.getfield 85, 3) := by decide +kernel
theorem dX1_publishVersion_31 : decode cX1_publishVersion 31 = .ok (.iconst 3, 1) := by decide +kernel
theorem dX1_publishVersion_32 : decode cX1_publishVersion 32 = .ok (.iaload, 1) := by decide +kernel
theorem dX1_publishVersion_33 : decode cX1_publishVersion 33 = .ok (.if_icmp .le 6, 3) := by decide +kernel
theorem dX1_publishVersion_36 : decode cX1_publishVersion 36 = .ok (.bipush (-2), 2) := by decide +kernel
theorem dX1_publishVersion_38 : decode cX1_publishVersion 38 = .ok (.ireturn, 1) := by decide +kernel
theorem dX1_publishVersion_39 : decode cX1_publishVersion 39 = .ok (.aload_n 0, 1) := by decide +kernel
theorem dX1_publishVersion_40 : decode cX1_publishVersion 40 = .ok (.getfield 22, 3) := by decide +kernel
theorem dX1_publishVersion_43 : decode cX1_publishVersion 43 = .ok (.getfield 94, 3) := by decide +kernel
theorem dX1_publishVersion_46 : decode cX1_publishVersion 46 = .ok (.bipush 6, 2) := by decide +kernel
theorem dX1_publishVersion_48 : decode cX1_publishVersion 48 = .ok (.if_icmp .lt 6, 3) := by decide +kernel
theorem dX1_publishVersion_51 : decode cX1_publishVersion 51 = .ok (.bipush (-3), 2) := by decide +kernel
theorem dX1_publishVersion_53 : decode cX1_publishVersion 53 = .ok (.ireturn, 1) := by decide +kernel
theorem dX1_publishVersion_54 : decode cX1_publishVersion 54 = .ok (.aload_n 0, 1) := by decide +kernel
theorem dX1_publishVersion_55 : decode cX1_publishVersion 55 = .ok (.getfield 12, 3) := by decide +kernel
theorem dX1_publishVersion_58 : decode cX1_publishVersion 58 = .ok (.invokevirtual 97, 3) := by decide +kernel
theorem dX1_publishVersion_61 : decode cX1_publishVersion 61 = .ok (.istore_n 1, 1) := by decide +kernel
theorem dX1_publishVersion_62 : decode cX1_publishVersion 62 = .ok (.aload_n 0, 1) := by decide +kernel
theorem dX1_publishVersion_63 : decode cX1_publishVersion 63 = .ok (.getfield 22, 3) := by decide +kernel
theorem dX1_publishVersion_66 : decode cX1_publishVersion 66 = .ok (.aload_n 0, 1) := by decide +kernel
theorem dX1_publishVersion_67 : decode cX1_publishVersion 67 = .ok (.getfield 12, 3) := by decide +kernel
theorem dX1_publishVersion_70 : decode cX1_publishVersion 70 = .ok (.getfield 100, 3) := by decide +kernel
theorem dX1_publishVersion_73 : decode cX1_publishVersion 73 = .ok (.invokevirtual 103, 3) := by decide +kernel
theorem dX1_publishVersion_76 : decode cX1_publishVersion 76 = .ok (.iload_n 1, 1) := by decide +kernel
theorem dX1_publishVersion_77 : decode cX1_publishVersion 77 = .ok (.ireturn, 1) := by decide +kernel
theorem dX1_drawCards_0 : decode cX1_drawCards 0 = .ok (.iload_n 1, 1) := by decide +kernel
theorem dX1_drawCards_1 : decode cX1_drawCards 1 = .ok (.iconst 0, 1) := by decide +kernel
theorem dX1_drawCards_2 : decode cX1_drawCards 2 = .ok (.ldc 107, 2) := by decide +kernel
theorem dX1_drawCards_4 : decode cX1_drawCards 4 = .ok (.invokestatic 42, 3) := by decide +kernel
theorem dX1_drawCards_7 : decode cX1_drawCards 7 = .ok (.ifCond .eq 13, 3) := by decide +kernel
theorem dX1_drawCards_10 : decode cX1_drawCards 10 = .ok (.iload_n 2, 1) := by decide +kernel
theorem dX1_drawCards_11 : decode cX1_drawCards 11 = .ok (.iconst 1, 1) := by decide +kernel
theorem dX1_drawCards_12 : decode cX1_drawCards 12 = .ok (.bipush 40, 2) := by decide +kernel
theorem dX1_drawCards_14 : decode cX1_drawCards 14 = .ok (.invokestatic 42, 3) := by decide +kernel
theorem dX1_drawCards_17 : decode cX1_drawCards 17 = .ok (.ifCond .ne 5, 3) := by decide +kernel
theorem dX1_drawCards_20 : decode cX1_drawCards 20 = .ok (.iconst (-1), 1) := by decide +kernel
theorem dX1_drawCards_21 : decode cX1_drawCards 21 = .ok (.ireturn, 1) := by decide +kernel
theorem dX1_drawCards_22 : decode cX1_drawCards 22 = .ok (.aload_n 0, 1) := by decide +kernel
theorem dX1_drawCards_23 : decode cX1_drawCards 23 = .ok (.getfield 12, 3) := by decide +kernel
theorem dX1_drawCards_26 : decode cX1_drawCards 26 = .ok (.invokevirtual 88, 3) := by decide +kernel
theorem dX1_drawCards_29 : decode cX1_drawCards 29 = .ok (.aload_n 0, 1) := by decide +kernel
theorem dX1_drawCards_30 : decode cX1_drawCards 30 = .ok (.getfield 12, 3) := by decide +kernel
theorem dX1_drawCards_33 : decode cX1_drawCards 33 = .ok (.invokevirtual 108, 3) := by decide +kernel
theorem dX1_drawCards_36 : decode cX1_drawCards 36 = .ok (.istore_n 3, 1) := by decide +kernel
theorem dX1_drawCards_37 : decode cX1_drawCards 37 = .ok (.iload_n 3, 1) := by decide +kernel
theorem dX1_drawCards_38 : decode cX1_drawCards 38 = .ok (.iload_n 2, 1) := by decide +kernel
theorem dX1_drawCards_39 : decode cX1_drawCards 39 = .ok (.if_icmp .ge 6, 3) := by decide +kernel
theorem dX1_drawCards_42 : decode cX1_drawCards 42 = .ok (.bipush (-2), 2) := by decide +kernel
theorem dX1_drawCards_44 : decode cX1_drawCards 44 = .ok (.ireturn, 1) := by decide +kernel
theorem dX1_drawCards_45 : decode cX1_drawCards 45 = .ok (.iload_n 1, 1) := by decide +kernel
theorem dX1_drawCards_46 : decode cX1_drawCards 46 = .ok (.istore 4, 2) := by decide +kernel
theorem dX1_drawCards_48 : decode cX1_drawCards 48 = .ok (.iload_n 3, 1) := by decide +kernel
theorem dX1_drawCards_49 : decode cX1_drawCards 49 = .ok (.istore 5, 2) := by decide +kernel
theorem dX1_drawCards_51 : decode cX1_drawCards 51 = .ok (.iload 5, 2) := by decide +kernel
theorem dX1_drawCards_53 : decode cX1_drawCards 53 = .ok (.ifCond .le 61, 3) := by decide +kernel
theorem dX1_drawCards_56 : decode cX1_drawCards 56 = .ok (.iload 5, 2) := by decide +kernel
theorem dX1_drawCards_58 : decode cX1_drawCards 58 = .ok (.iload_n 3, 1) := by decide +kernel
theorem dX1_drawCards_59 : decode cX1_drawCards 59 = .ok (.iload_n 2, 1) := by decide +kernel
theorem dX1_drawCards_60 : decode cX1_drawCards 60 = .ok (.isub, 1) := by decide +kernel
theorem dX1_drawCards_61 : decode cX1_drawCards 61 = .ok (.if_icmp .le 53, 3) := by decide +kernel
theorem dX1_drawCards_64 : decode cX1_drawCards 64 = .ok (.iload 4, 2) := by decide +kernel
theorem dX1_drawCards_66 : decode cX1_drawCards 66 = .ok (.invokestatic 111, 3) := by decide +kernel
theorem dX1_drawCards_69 : decode cX1_drawCards 69 = .ok (.istore 4, 2) := by decide +kernel
theorem dX1_drawCards_71 : decode cX1_drawCards 71 = .ok (.aload_n 0, 1) := by decide +kernel
theorem dX1_drawCards_72 : decode cX1_drawCards 72 = .ok (.getfield 12, 3) := by decide +kernel
theorem dX1_drawCards_75 : decode cX1_drawCards 75 = .ok (.iload 4, 2) := by decide +kernel
theorem dX1_drawCards_77 : decode cX1_drawCards 77 = .ok (.iload 5, 2) := by decide +kernel
theorem dX1_drawCards_79 : decode cX1_drawCards 79 = .ok (.irem, 1) := by decide +kernel
theorem dX1_drawCards_80 : decode cX1_drawCards 80 = .ok (.invokevirtual 114, 3) := by decide +kernel
theorem dX1_drawCards_83 : decode cX1_drawCards 83 = .ok (.istore 6, 2) := by decide +kernel
theorem dX1_drawCards_85 : decode cX1_drawCards 85 = .ok (.aload_n 0, 1) := by decide +kernel
theorem dX1_drawCards_86 : decode cX1_drawCards 86 = .ok (.getfield 22, 3) := by decide +kernel
theorem dX1_drawCards_89 : decode cX1_drawCards 89 = .ok (.iload 6, 2) := by decide +kernel
theorem dX1_drawCards_91 : decode cX1_drawCards 91 = .ok (.invokevirtual 117, 3) := by decide +kernel
theorem dX1_drawCards_94 : decode cX1_drawCards 94 = .ok (.ifCond .eq 14, 3) := by decide +kernel
theorem dX1_drawCards_97 : decode cX1_drawCards 97 = .ok (.aload_n 0, 1) := by decide +kernel
theorem dX1_drawCards_98 : decode cX1_drawCards 98 = .ok (.getfield 22, 3) := by decide +kernel
theorem dX1_drawCards_101 : decode cX1_drawCards 101 = .ok (.getfield 67, 3) := by decide +kernel
theorem dX1_drawCards_104 : decode cX1_drawCards 104 = .ok (.iload 6, 2) := by decide +kernel
theorem dX1_drawCards_106 : decode cX1_drawCards 106 = .ok (.iconst 1, 1) := by decide +kernel
theorem dX1_drawCards_107 : decode cX1_drawCards 107 = .ok (.iastore, 1) := by decide +kernel
theorem dX1_drawCards_108 : decode cX1_drawCards 108 = .ok (.iinc 5 (-1), 3) := by decide +kernel
theorem dX1_drawCards_111 : decode cX1_drawCards 111 = .ok (.goto (-60), 3) := by decide +kernel
theorem dX1_drawCards_114 : decode cX1_drawCards 114 = .ok (.aload_n 0, 1) := by decide +kernel
theorem dX1_drawCards_115 : decode cX1_drawCards 115 = .ok (.getfield 22, 3) := by decide +kernel
theorem dX1_drawCards_118 : decode cX1_drawCards 118 = .ok (.iconst 1, 1) := by decide +kernel
theorem dX1_drawCards_119 : decode cX1_drawCards 119 = .ok (.invokevirtual 121, 3) := by decide +kernel
theorem dX1_drawCards_122 : decode cX1_drawCards 122 = .ok (.ireturn, 1) := by decide +kernel
theorem dX1_lookAt_0 : decode cX1_lookAt 0 = .ok (.aload_n 0, 1) := by decide +kernel
theorem dX1_lookAt_1 : decode cX1_lookAt 1 = .ok (.getfield 22, 3) := by decide +kernel
theorem dX1_lookAt_4 : decode cX1_lookAt 4 = .ok (.iload_n 1, 1) := by decide +kernel
theorem dX1_lookAt_5 : decode cX1_lookAt 5 = .ok (.invokevirtual 117, 3) := by decide +kernel
theorem dX1_lookAt_8 : decode cX1_lookAt 8 = .ok (.ifCond .eq 10, 3) := by decide +kernel
theorem dX1_lookAt_11 : decode cX1_lookAt 11 = .ok (.lload_n 2, 1) := by decide +kernel
theorem dX1_lookAt_12 : decode cX1_lookAt 12 = .ok (.invokestatic 46, 3) := by decide +kernel
theorem dX1_lookAt_15 : decode cX1_lookAt 15 = .ok (.ifCond .ne 5, 3) := by decide +kernel
theorem dX1_lookAt_18 : decode cX1_lookAt 18 = .ok (.iconst (-1), 1) := by decide +kernel
theorem dX1_lookAt_19 : decode cX1_lookAt 19 = .ok (.ireturn, 1) := by decide +kernel
theorem dX1_lookAt_20 : decode cX1_lookAt 20 = .ok (.aload_n 0, 1) := by decide +kernel
theorem dX1_lookAt_21 : decode cX1_lookAt 21 = .ok (.getfield 22, 3) := by decide +kernel
theorem dX1_lookAt_24 : decode cX1_lookAt 24 = .ok (.getfield 67, 3) := by decide +kernel
theorem dX1_lookAt_27 : decode cX1_lookAt 27 = .ok (.iload_n 1, 1) := by decide +kernel
theorem dX1_lookAt_28 : decode cX1_lookAt 28 = .ok (.iaload, 1) := by decide +kernel
theorem dX1_lookAt_29 : decode cX1_lookAt 29 = .ok (.iconst 1, 1) := by decide +kernel
theorem dX1_lookAt_30 : decode cX1_lookAt 30 = .ok (.if_icmp .eq 6, 3) := by decide +kernel
theorem dX1_lookAt_33 : decode cX1_lookAt 33 = .ok (.bipush (-2), 2) := by decide +kernel
theorem dX1_lookAt_35 : decode cX1_lookAt 35 = .ok (.ireturn, 1) := by decide +kernel
theorem dX1_lookAt_36 : decode cX1_lookAt 36 = .ok (.aload_n 0, 1) := by decide +kernel
theorem dX1_lookAt_37 : decode cX1_lookAt 37 = .ok (.getfield 12, 3) := by decide +kernel
theorem dX1_lookAt_40 : decode cX1_lookAt 40 = .ok (.invokevirtual 88, 3) := by decide +kernel
theorem dX1_lookAt_43 : decode cX1_lookAt 43 = .ok (.aload_n 0, 1) := by decide +kernel
theorem dX1_lookAt_44 : decode cX1_lookAt 44 = .ok (.getfield 12, 3) := by decide +kernel
theorem dX1_lookAt_47 : decode cX1_lookAt 47 = .ok (.getfield 100, 3) := by decide +kernel
theorem dX1_lookAt_50 : decode cX1_lookAt 50 = .ok (.iload_n 1, 1) := by decide +kernel
theorem dX1_lookAt_51 : decode cX1_lookAt 51 = .ok (.iaload, 1) := by decide +kernel
theorem dX1_lookAt_52 : decode cX1_lookAt 52 = .ok (.istore 4, 2) := by decide +kernel
theorem dX1_lookAt_54 : decode cX1_lookAt 54 = .ok (.aload_n 0, 1) := by decide +kernel
theorem dX1_lookAt_55 : decode cX1_lookAt 55 = .ok (.getfield 22, 3) := by decide +kernel
theorem dX1_lookAt_58 : decode cX1_lookAt 58 = .ok (.getfield 67, 3) := by decide +kernel
theorem dX1_lookAt_61 : decode cX1_lookAt 61 = .ok (.iload_n 1, 1) := by decide +kernel
theorem dX1_lookAt_62 : decode cX1_lookAt 62 = .ok (.iconst 2, 1) := by decide +kernel
theorem dX1_lookAt_63 : decode cX1_lookAt 63 = .ok (.iastore, 1) := by decide +kernel
theorem dX1_lookAt_64 : decode cX1_lookAt 64 = .ok (.aload_n 0, 1) := by decide +kernel
theorem dX1_lookAt_65 : decode cX1_lookAt 65 = .ok (.getfield 22, 3) := by decide +kernel
theorem dX1_lookAt_68 : decode cX1_lookAt 68 = .ok (.getfield 64, 3) := by decide +kernel
theorem dX1_lookAt_71 : decode cX1_lookAt 71 = .ok (.iload_n 1, 1) := by decide +kernel
theorem dX1_lookAt_72 : decode cX1_lookAt 72 = .ok (.lload_n 2, 1) := by decide +kernel
theorem dX1_lookAt_73 : decode cX1_lookAt 73 = .ok (.lastore, 1) := by decide +kernel
theorem dX1_lookAt_74 : decode cX1_lookAt 74 = .ok (.aload_n 0, 1) := by decide +kernel
theorem dX1_lookAt_75 : decode cX1_lookAt 75 = .ok (.getfield 12, 3) := by decide +kernel
theorem dX1_lookAt_78 : decode cX1_lookAt 78 = .ok (.invokevirtual 88, 3) := by decide +kernel
theorem dX1_lookAt_81 : decode cX1_lookAt 81 = .ok (.iload 4, 2) := by decide +kernel
theorem dX1_lookAt_83 : decode cX1_lookAt 83 = .ok (.aload_n 0, 1) := by decide +kernel
theorem dX1_lookAt_84 : decode cX1_lookAt 84 = .ok (.getfield 12, 3) := by decide +kernel
theorem dX1_lookAt_87 : decode cX1_lookAt 87 = .ok (.getfield 100, 3) := by decide +kernel
theorem dX1_lookAt_90 : decode cX1_lookAt 90 = .ok (.iload_n 1, 1) := by decide +kernel
theorem dX1_lookAt_91 : decode cX1_lookAt 91 = .ok (.iaload, 1) := by decide +kernel
theorem dX1_lookAt_92 : decode cX1_lookAt 92 = .ok (.invokestatic 124, 3) := by decide +kernel
theorem dX1_lookAt_95 : decode cX1_lookAt 95 = .ok (.ireturn, 1) := by decide +kernel
theorem dX2_init_0 : decode cX2_init 0 = .ok (.aload_n 0, 1) := by decide +kernel
theorem dX2_init_1 : decode cX2_init 1 = .ok (.invokespecial 3, 3) := by decide +kernel
theorem dX2_init_4 : decode cX2_init 4 = .ok (.aload_n 0, 1) := by decide +kernel
theorem dX2_init_5 : decode cX2_init 5 = .ok (.bipush 6, 2) := by decide +kernel
theorem dX2_init_7 : decode cX2_init 7 = .ok (.anewarray 9, 3) := by decide +kernel
theorem dX2_init_10 : decode cX2_init 10 = .ok (.dup, 1) := by decide +kernel
theorem dX2_init_11 : decode cX2_init 11 = .ok (.iconst 0, 1) := by decide +kernel
theorem dX2_init_12 : decode cX2_init 12 = .ok (.new 9, 3) := by decide +kernel
theorem dX2_init_15 : decode cX2_init 15 = .ok (.dup, 1) := by decide +kernel
theorem dX2_init_16 : decode cX2_init 16 = .ok (.invokespecial 11, 3) := by decide +kernel
theorem dX2_init_19 : decode cX2_init 19 = .ok (.aastore, 1) := by decide +kernel
theorem dX2_init_20 : decode cX2_init 20 = .ok (.dup, 1) := by decide +kernel
theorem dX2_init_21 : decode cX2_init 21 = .ok (.iconst 1, 1) := by decide +kernel
theorem dX2_init_22 : decode cX2_init 22 = .ok (.new 9, 3) := by decide +kernel
theorem dX2_init_25 : decode cX2_init 25 = .ok (.dup, 1) := by decide +kernel
theorem dX2_init_26 : decode cX2_init 26 = .ok (.invokespecial 11, 3) := by decide +kernel
theorem dX2_init_29 : decode cX2_init 29 = .ok (.aastore, 1) := by decide +kernel
theorem dX2_init_30 : decode cX2_init 30 = .ok (.dup, 1) := by decide +kernel
theorem dX2_init_31 : decode cX2_init 31 = .ok (.iconst 2, 1) := by decide +kernel
theorem dX2_init_32 : decode cX2_init 32 = .ok (.new 9, 3) := by decide +kernel
theorem dX2_init_35 : decode cX2_init 35 = .ok (.dup, 1) := by decide +kernel
theorem dX2_init_36 : decode cX2_init 36 = .ok (.invokespecial 11, 3) := by decide +kernel
theorem dX2_init_39 : decode cX2_init 39 = .ok (.aastore, 1) := by decide +kernel
theorem dX2_init_40 : decode cX2_init 40 = .ok (.dup, 1) := by decide +kernel
theorem dX2_init_41 : decode cX2_init 41 = .ok (.iconst 3, 1) := by decide +kernel
theorem dX2_init_42 : decode cX2_init 42 = .ok (.new 9, 3) := by decide +kernel
theorem dX2_init_45 : decode cX2_init 45 = .ok (.dup, 1) := by decide +kernel
theorem dX2_init_46 : decode cX2_init 46 = .ok (.invokespecial 11, 3) := by decide +kernel
theorem dX2_init_49 : decode cX2_init 49 = .ok (.aastore, 1) := by decide +kernel
theorem dX2_init_50 : decode cX2_init 50 = .ok (.dup, 1) := by decide +kernel
theorem dX2_init_51 : decode cX2_init 51 = .ok (.iconst 4, 1) := by decide +kernel
theorem dX2_init_52 : decode cX2_init 52 = .ok (.new 9, 3) := by decide +kernel
theorem dX2_init_55 : decode cX2_init 55 = .ok (.dup, 1) := by decide +kernel
theorem dX2_init_56 : decode cX2_init 56 = .ok (.invokespecial 11, 3) := by decide +kernel
theorem dX2_init_59 : decode cX2_init 59 = .ok (.aastore, 1) := by decide +kernel
theorem dX2_init_60 : decode cX2_init 60 = .ok (.dup, 1) := by decide +kernel
theorem dX2_init_61 : decode cX2_init 61 = .ok (.iconst 5, 1) := by decide +kernel
theorem dX2_init_62 : decode cX2_init 62 = .ok (.new 9, 3) := by decide +kernel
theorem dX2_init_65 : decode cX2_init 65 = .ok (.dup, 1) := by decide +kernel
theorem dX2_init_66 : decode cX2_init 66 = .ok (.invokespecial 11, 3) := by decide +kernel
theorem dX2_init_69 : decode cX2_init 69 = .ok (.aastore, 1) := by decide +kernel
theorem dX2_init_70 : decode cX2_init 70 = .ok (.putfield 12, 3) := by decide +kernel
theorem dX2_init_73 : decode cX2_init 73 = .ok (.return_, 1) := by decide +kernel
theorem dX2_prepare_0 : decode cX2_prepare 0 = .ok (.aload_n 0, 1) := by decide +kernel
theorem dX2_prepare_1 : decode cX2_prepare 1 = .ok (.getfield 18, 3) := by decide +kernel
theorem dX2_prepare_4 : decode cX2_prepare 4 = .ok (.aload_n 0, 1) := by decide +kernel
theorem dX2_prepare_5 : decode cX2_prepare 5 = .ok (.getfield 12, 3) := by decide +kernel
theorem dX2_prepare_8 : decode cX2_prepare 8 = .ok (.arraylength, 1) := by decide +kernel
theorem dX2_prepare_9 : decode cX2_prepare 9 = .ok (.if_icmp .ge 17, 3) := by decide +kernel
theorem dX2_prepare_12 : decode cX2_prepare 12 = .ok (.aload_n 0, 1) := by decide +kernel
theorem dX2_prepare_13 : decode cX2_prepare 13 = .ok (.getfield 12, 3) := by decide +kernel
theorem dX2_prepare_16 : decode cX2_prepare 16 = .ok (.aload_n 0, 1) := by decide +kernel
theorem dX2_prepare_17 : decode cX2_prepare 17 = .ok (.getfield 18, 3) := by decide +kernel
theorem dX2_prepare_20 : decode cX2_prepare 20 = .ok (.aaload, 1) := by decide +kernel
theorem dX2_prepare_21 : decode cX2_prepare 21 = .ok (.aload_n 1, 1) := by decide +kernel
theorem dX2_prepare_22 : decode cX2_prepare 22 = .ok (.aload_n 2, 1) := by decide +kernel
theorem dX2_prepare_23 : decode cX2_prepare 23 = .ok (.invokevirtual 22, 3) := by decide +kernel
theorem dX2_prepare_26 : decode cX2_prepare 26 = .ok (.return_, 1) := by decide +kernel
theorem dX2_giveBackPrepared_0 : decode cX2_giveBackPrepared 0 = .ok (.aload_n 0, 1) := by decide +kernel
theorem dX2_giveBackPrepared_1 : decode cX2_giveBackPrepared 1 = .ok (.getfield 18, 3) := by decide +kernel
theorem dX2_giveBackPrepared_4 : decode cX2_giveBackPrepared 4 = .ok (.aload_n 0, 1) := by decide +kernel
theorem dX2_giveBackPrepared_5 : decode cX2_giveBackPrepared 5 = .ok (.getfield 12, 3) := by decide +kernel
theorem dX2_giveBackPrepared_8 : decode cX2_giveBackPrepared 8 = .ok (.arraylength, 1) := by decide +kernel
theorem dX2_giveBackPrepared_9 : decode cX2_giveBackPrepared 9 = .ok (.if_icmp .ge 17, 3) := by decide +kernel
theorem dX2_giveBackPrepared_12 : decode cX2_giveBackPrepared 12 = .ok (.aload_n 0, 1) := by decide +kernel
theorem dX2_giveBackPrepared_13 : decode cX2_giveBackPrepared 13 = .ok (.getfield 12, 3) := by decide +kernel
theorem dX2_giveBackPrepared_16 : decode cX2_giveBackPrepared 16 = .ok (.aload_n 0, 1) := by decide +kernel
theorem dX2_giveBackPrepared_17 : decode cX2_giveBackPrepared 17 = .ok (.getfield 18, 3) := by decide +kernel
theorem dX2_giveBackPrepared_20 : decode cX2_giveBackPrepared 20 = .ok (.aaload, 1) := by decide +kernel
theorem dX2_giveBackPrepared_21 : decode cX2_giveBackPrepared 21 = .ok (.aload_n 1, 1) := by decide +kernel
theorem dX2_giveBackPrepared_22 : decode cX2_giveBackPrepared 22 = .ok (.aload_n 2, 1) := by decide +kernel
theorem dX2_giveBackPrepared_23 : decode cX2_giveBackPrepared 23 = .ok (.invokevirtual 26, 3) := by decide +kernel
theorem dX2_giveBackPrepared_26 : decode cX2_giveBackPrepared 26 = .ok (.return_, 1) := by decide +kernel
theorem dX2_record_0 : decode cX2_record 0 = .ok (.aload_n 0, 1) := by decide +kernel
theorem dX2_record_1 : decode cX2_record 1 = .ok (.getfield 18, 3) := by decide +kernel
theorem dX2_record_4 : decode cX2_record 4 = .ok (.iconst 5, 1) := by decide +kernel
theorem dX2_record_5 : decode cX2_record 5 = .ok (.if_icmp .ge 14, 3) := by decide +kernel
theorem dX2_record_8 : decode cX2_record 8 = .ok (.aload_n 0, 1) := by decide +kernel
theorem dX2_record_9 : decode cX2_record 9 = .ok (.dup, 1) := by decide +kernel
theorem dX2_record_10 : decode cX2_record 10 = .ok (.getfield 18, 3) := by decide +kernel
theorem dX2_record_13 : decode cX2_record 13 = .ok (.iconst 1, 1) := by decide +kernel
theorem dX2_record_14 : decode cX2_record 14 = .ok (.iadd, 1) := by decide +kernel
theorem dX2_record_15 : decode cX2_record 15 = .ok (.putfield 18, 3) := by decide +kernel
theorem dX2_record_18 : decode cX2_record 18 = .ok (.return_, 1) := by decide +kernel
theorem dX2_record_19 : decode cX2_record 19 = .ok (.aload_n 0, 1) := by decide +kernel
theorem dX2_record_20 : decode cX2_record 20 = .ok (.getfield 12, 3) := by decide +kernel
theorem dX2_record_23 : decode cX2_record 23 = .ok (.iconst 0, 1) := by decide +kernel
theorem dX2_record_24 : decode cX2_record 24 = .ok (.aaload, 1) := by decide +kernel
theorem dX2_record_25 : decode cX2_record 25 = .ok (.astore_n 1, 1) := by decide +kernel
theorem dX2_record_26 : decode cX2_record 26 = .ok (.iconst 0, 1) := by decide +kernel
theorem dX2_record_27 : decode cX2_record 27 = .ok (.istore_n 2, 1) := by decide +kernel
theorem dX2_record_28 : decode cX2_record 28 = .ok (.iload_n 2, 1) := by decide +kernel
theorem dX2_record_29 : decode cX2_record 29 = .ok (.iconst 5, 1) := by decide +kernel
theorem dX2_record_30 : decode cX2_record 30 = .ok (.if_icmp .ge 23, 3) := by decide +kernel
theorem dX2_record_33 : decode cX2_record 33 = .ok (.aload_n 0, 1) := by decide +kernel
theorem dX2_record_34 : decode cX2_record 34 = .ok (.getfield 12, 3) := by decide +kernel
theorem dX2_record_37 : decode cX2_record 37 = .ok (.iload_n 2, 1) := by decide +kernel
theorem dX2_record_38 : decode cX2_record 38 = .ok (.aload_n 0, 1) := by decide +kernel
theorem dX2_record_39 : decode cX2_record 39 = .ok (.getfield 12, 3) := by decide +kernel
theorem dX2_record_42 : decode cX2_record 42 = .ok (.iload_n 2, 1) := by decide +kernel
theorem dX2_record_43 : decode cX2_record 43 = .ok (.iconst 1, 1) := by decide +kernel
theorem dX2_record_44 : decode cX2_record 44 = .ok (.iadd, 1) := by decide +kernel
theorem dX2_record_45 : decode cX2_record 45 = .ok (.aaload, 1) := by decide +kernel
theorem dX2_record_46 : decode cX2_record 46 = .ok (.aastore, 1) := by decide +kernel
theorem dX2_record_47 : decode cX2_record 47 = .ok (.iinc 2 1, 3) := by decide +kernel
theorem dX2_record_50 : decode cX2_record 50 = .ok (.goto (-22), 3) := by decide +kernel
theorem dX2_record_53 : decode cX2_record 53 = .ok (.aload_n 0, 1) := by decide +kernel
theorem dX2_record_54 : decode cX2_record 54 = .ok (.getfield 12, 3) := by decide +kernel
theorem dX2_record_57 : decode cX2_record 57 = .ok (.iconst 5, 1) := by decide +kernel
theorem dX2_record_58 : decode cX2_record 58 = .ok (.aload_n 1, 1) := by decide +kernel
theorem dX2_record_59 : decode cX2_record 59 = .ok (.aastore, 1) := by decide +kernel
theorem dX2_record_60 : decode cX2_record 60 = .ok (.return_, 1) := by decide +kernel
theorem dX2_goBack_0 : decode cX2_goBack 0 = .ok (.aload_n 0, 1) := by decide +kernel
theorem dX2_goBack_1 : decode cX2_goBack 1 = .ok (.getfield 18, 3) := by decide +kernel
theorem dX2_goBack_4 : decode cX2_goBack 4 = .ok (.ifCond .le 27, 3) := by decide +kernel
theorem dX2_goBack_7 : decode cX2_goBack 7 = .ok (.aload_n 0, 1) := by decide +kernel
theorem dX2_goBack_8 : decode cX2_goBack 8 = .ok (.dup, 1) := by decide +kernel
theorem dX2_goBack_9 : decode cX2_goBack 9 = .ok (.getfield 18, 3) := by decide +kernel
theorem dX2_goBack_12 : decode cX2_goBack 12 = .ok (.iconst 1, 1) := by decide +kernel
theorem dX2_goBack_13 : decode cX2_goBack 13 = .ok (.isub, 1) := by decide +kernel
theorem dX2_goBack_14 : decode cX2_goBack 14 = .ok (.putfield 18, 3) := by decide +kernel
theorem dX2_goBack_17 : decode cX2_goBack 17 = .ok (.aload_n 0, 1) := by decide +kernel
theorem dX2_goBack_18 : decode cX2_goBack 18 = .ok (.getfield 12, 3) := by decide +kernel
theorem dX2_goBack_21 : decode cX2_goBack 21 = .ok (.aload_n 0, 1) := by decide +kernel
theorem dX2_goBack_22 : decode cX2_goBack 22 = .ok (.getfield 18, 3) := by decide +kernel
theorem dX2_goBack_25 : decode cX2_goBack 25 = .ok (.aaload, 1) := by decide +kernel
theorem dX2_goBack_26 : decode cX2_goBack 26 = .ok (.aload_n 1, 1) := by decide +kernel
theorem dX2_goBack_27 : decode cX2_goBack 27 = .ok (.aload_n 2, 1) := by decide +kernel
theorem dX2_goBack_28 : decode cX2_goBack 28 = .ok (.invokevirtual 26, 3) := by decide +kernel
theorem dX2_goBack_31 : decode cX2_goBack 31 = .ok (.return_, 1) := by decide +kernel
theorem dX3_init_0 : decode cX3_init 0 = .ok (.aload_n 0, 1) := by decide +kernel
theorem dX3_init_1 : decode cX3_init 1 = .ok (.invokespecial 3, 3) := by decide +kernel
theorem dX3_init_4 : decode cX3_init 4 = .ok (.aload_n 0, 1) := by decide +kernel
theorem dX3_init_5 : decode cX3_init 5 = .ok (.new 9, 3) := by decide +kernel
theorem dX3_init_8 : decode cX3_init 8 = .ok (.dup, 1) := by decide +kernel
theorem dX3_init_9 : decode cX3_init 9 = .ok (.invokespecial 11, 3) := by decide +kernel
theorem dX3_init_12 : decode cX3_init 12 = .ok (.putfield 12, 3) := by decide +kernel
theorem dX3_init_15 : decode cX3_init 15 = .ok (.aload_n 0, 1) := by decide +kernel
theorem dX3_init_16 : decode cX3_init 16 = .ok (.iconst 0, 1) := by decide +kernel
theorem dX3_init_17 : decode cX3_init 17 = .ok (.putfield 18, 3) := by decide +kernel
theorem dX3_init_20 : decode cX3_init 20 = .ok (.return_, 1) := by decide +kernel
theorem dX3_runWith_0 : decode cX3_runWith 0 = .ok (.aload_n 0, 1) := by decide +kernel
theorem dX3_runWith_1 : decode cX3_runWith 1 = .ok (.getfield 12, 3) := by decide +kernel
theorem dX3_runWith_4 : decode cX3_runWith 4 = .ok (.invokevirtual 22, 3) := by decide +kernel
theorem dX3_runWith_7 : decode cX3_runWith 7 = .ok (.iconst 0, 1) := by decide +kernel
theorem dX3_runWith_8 : decode cX3_runWith 8 = .ok (.istore_n 2, 1) := by decide +kernel
theorem dX3_runWith_9 : decode cX3_runWith 9 = .ok (.iload_n 2, 1) := by decide +kernel
theorem dX3_runWith_10 : decode cX3_runWith 10 = .ok (.sipush 140, 3) := by decide +kernel
theorem dX3_runWith_13 : decode cX3_runWith 13 = .ok (.if_icmp .gt 111, 3) := by decide +kernel
theorem dX3_runWith_16 : decode cX3_runWith 16 = .ok (.aload_n 0, 1) := by decide +kernel
theorem dX3_runWith_17 : decode cX3_runWith 17 = .ok (.getfield 12, 3) := by decide +kernel
theorem dX3_runWith_20 : decode cX3_runWith 20 = .ok (.invokevirtual 25, 3) := by decide +kernel
theorem dX3_runWith_23 : decode cX3_runWith 23 = .ok (.aload_n 0, 1) := by decide +kernel
theorem dX3_runWith_24 : decode cX3_runWith 24 = .ok (.getfield 12, 3) := by decide +kernel
theorem dX3_runWith_27 : decode cX3_runWith 27 = .ok (.getfield 28, 3) := by decide +kernel
theorem dX3_runWith_30 : decode cX3_runWith 30 = .ok (.ifCond .ne 5, 3) := by decide +kernel
theorem dX3_runWith_33 : decode cX3_runWith 33 = .ok (.iload_n 2, 1) := by decide +kernel
theorem dX3_runWith_34 : decode cX3_runWith 34 = .ok (.ireturn, 1) := by decide +kernel
theorem dX3_runWith_35 : decode cX3_runWith 35 = .ok (.aload_n 0, 1) := by decide +kernel
theorem dX3_runWith_36 : decode cX3_runWith 36 = .ok (.getfield 12, 3) := by decide +kernel
theorem dX3_runWith_39 : decode cX3_runWith 39 = .ok (.getfield 31, 3) := by decide +kernel
theorem dX3_runWith_42 : decode cX3_runWith 42 = .ok (.istore_n 3, 1) := by decide +kernel
theorem dX3_runWith_43 : decode cX3_runWith 43 = .ok (.aload_n 0, 1) := by decide +kernel
theorem dX3_runWith_44 : decode cX3_runWith 44 = .ok (.invokevirtual 34, 3) := by decide +kernel
theorem dX3_runWith_47 : decode cX3_runWith 47 = .ok (.istore 4, 2) := by decide +kernel
theorem dX3_runWith_49 : decode cX3_runWith 49 = .ok (.iload 4, 2) := by decide +kernel
theorem dX3_runWith_51 : decode cX3_runWith 51 = .ok (.iconst (-1), 1) := by decide +kernel
theorem dX3_runWith_52 : decode cX3_runWith 52 = .ok (.if_icmp .eq 19, 3) := by decide +kernel
theorem dX3_runWith_55 : decode cX3_runWith 55 = .ok (.aload_n 0, 1) := by decide +kernel
theorem dX3_runWith_56 : decode cX3_runWith 56 = .ok (.iload 4, 2) := by decide +kernel
theorem dX3_runWith_58 : decode cX3_runWith 58 = .ok (.invokevirtual 38, 3) := by decide +kernel
theorem dX3_runWith_61 : decode cX3_runWith 61 = .ok (.ifCond .eq 10, 3) := by decide +kernel
theorem dX3_runWith_64 : decode cX3_runWith 64 = .ok (.aload_n 0, 1) := by decide +kernel
theorem dX3_runWith_65 : decode cX3_runWith 65 = .ok (.invokevirtual 42, 3) := by decide +kernel
theorem dX3_runWith_68 : decode cX3_runWith 68 = .ok (.ifCond .ne 19, 3) := by decide +kernel
theorem dX3_runWith_71 : decode cX3_runWith 71 = .ok (.aload_n 0, 1) := by decide +kernel
theorem dX3_runWith_72 : decode cX3_runWith 72 = .ok (.iconst 1, 1) := by decide +kernel
theorem dX3_runWith_73 : decode cX3_runWith 73 = .ok (.aload_n 0, 1) := by decide +kernel
theorem dX3_runWith_74 : decode cX3_runWith 74 = .ok (.getfield 12, 3) := by decide +kernel
theorem dX3_runWith_77 : decode cX3_runWith 77 = .ok (.getfield 31, 3) := by decide +kernel
theorem dX3_runWith_80 : decode cX3_runWith 80 = .ok (.iload_n 2, 1) := by decide +kernel
theorem dX3_runWith_81 : decode cX3_runWith 81 = .ok (.bipush (-9), 2) := by decide +kernel
theorem dX3_runWith_83 : decode cX3_runWith 83 = .ok (.invokevirtual 46, 3) := by decide +kernel
theorem dX3_runWith_86 : decode cX3_runWith 86 = .ok (.ireturn, 1) := by decide +kernel
theorem dX3_runWith_87 : decode cX3_runWith 87 = .ok (.aload_n 1, 1) := by decide +kernel
theorem dX3_runWith_88 : decode cX3_runWith 88 = .ok (.iload 4, 2) := by decide +kernel
theorem dX3_runWith_90 : decode cX3_runWith 90 = .ok (.aload_n 0, 1) := by decide +kernel
theorem dX3_runWith_91 : decode cX3_runWith 91 = .ok (.getfield 50, 3) := by decide +kernel
theorem dX3_runWith_94 : decode cX3_runWith 94 = .ok (.aload_n 0, 1) := by decide +kernel
theorem dX3_runWith_95 : decode cX3_runWith 95 = .ok (.getfield 54, 3) := by decide +kernel
theorem dX3_runWith_98 : decode cX3_runWith 98 = .ok (.invokevirtual 57, 3) := by decide +kernel
theorem dX3_runWith_101 : decode cX3_runWith 101 = .ok (.istore 5, 2) := by decide +kernel
theorem dX3_runWith_103 : decode cX3_runWith 103 = .ok (.iload 5, 2) := by decide +kernel
theorem dX3_runWith_105 : decode cX3_runWith 105 = .ok (.ifCond .ge 13, 3) := by decide +kernel
theorem dX3_runWith_108 : decode cX3_runWith 108 = .ok (.aload_n 0, 1) := by decide +kernel
theorem dX3_runWith_109 : decode cX3_runWith 109 = .ok (.iconst 2, 1) := by decide +kernel
theorem dX3_runWith_110 : decode cX3_runWith 110 = .ok (.iload_n 3, 1) := by decide +kernel
theorem dX3_runWith_111 : decode cX3_runWith 111 = .ok (.iload_n 2, 1) := by decide +kernel
theorem dX3_runWith_112 : decode cX3_runWith 112 = .ok (.iload 5, 2) := by decide +kernel
theorem dX3_runWith_114 : decode cX3_runWith 114 = .ok (.invokevirtual 46, 3) := by decide +kernel
theorem dX3_runWith_117 : decode cX3_runWith 117 = .ok (.ireturn, 1) := by decide +kernel
theorem dX3_runWith_118 : decode cX3_runWith 118 = .ok (.iinc 2 1, 3) := by decide +kernel
theorem dX3_runWith_121 : decode cX3_runWith 121 = .ok (.goto (-112), 3) := by decide +kernel
theorem dX3_runWith_124 : decode cX3_runWith 124 = .ok (.sipush 140, 3) := by decide +kernel
theorem dX3_runWith_127 : decode cX3_runWith 127 = .ok (.ireturn, 1) := by decide +kernel
theorem dX3_wordHere_0 : decode cX3_wordHere 0 = .ok (.aload_n 0, 1) := by decide +kernel
theorem dX3_wordHere_1 : decode cX3_wordHere 1 = .ok (.getfield 12, 3) := by decide +kernel
theorem dX3_wordHere_4 : decode cX3_wordHere 4 = .ok (.ldc 63, 2) := by decide +kernel
theorem dX3_wordHere_6 : decode cX3_wordHere 6 = .ok (.invokevirtual 65, 3) := by decide +kernel
theorem dX3_wordHere_9 : decode cX3_wordHere 9 = .ok (.ifCond .eq 5, 3) := by decide +kernel
theorem dX3_wordHere_12 : decode cX3_wordHere 12 = .ok (.iconst 0, 1) := by decide +kernel
theorem dX3_wordHere_13 : decode cX3_wordHere 13 = .ok (.ireturn, 1) := by decide +kernel
theorem dX3_wordHere_14 : decode cX3_wordHere 14 = .ok (.aload_n 0, 1) := by decide +kernel
theorem dX3_wordHere_15 : decode cX3_wordHere 15 = .ok (.getfield 12, 3) := by decide +kernel
theorem dX3_wordHere_18 : decode cX3_wordHere 18 = .ok (.ldc 69, 2) := by decide +kernel
theorem dX3_wordHere_20 : decode cX3_wordHere 20 = .ok (.invokevirtual 65, 3) := by decide +kernel
theorem dX3_wordHere_23 : decode cX3_wordHere 23 = .ok (.ifCond .eq 5, 3) := by decide +kernel
theorem dX3_wordHere_26 : decode cX3_wordHere 26 = .ok (.iconst 1, 1) := by decide +kernel
theorem dX3_wordHere_27 : decode cX3_wordHere 27 = .ok (.ireturn, 1) := by decide +kernel
theorem dX3_wordHere_28 : decode cX3_wordHere 28 = .ok (.aload_n 0, 1) := by decide +kernel
theorem dX3_wordHere_29 : decode cX3_wordHere 29 = .ok (.getfield 12, 3) := by decide +kernel
theorem dX3_wordHere_32 : decode cX3_wordHere 32 = .ok (.ldc 71, 2) := by decide +kernel
theorem dX3_wordHere_34 : decode cX3_wordHere 34 = .ok (.invokevirtual 65, 3) := by decide +kernel
theorem dX3_wordHere_37 : decode cX3_wordHere 37 = .ok (.ifCond .eq 5, 3) := by decide +kernel
theorem dX3_wordHere_40 : decode cX3_wordHere 40 = .ok (.iconst 2, 1) := by decide +kernel
theorem dX3_wordHere_41 : decode cX3_wordHere 41 = .ok (.ireturn, 1) := by decide +kernel
theorem dX3_wordHere_42 : decode cX3_wordHere 42 = .ok (.aload_n 0, 1) := by decide +kernel
theorem dX3_wordHere_43 : decode cX3_wordHere 43 = .ok (.getfield 12, 3) := by decide +kernel
theorem dX3_wordHere_46 : decode cX3_wordHere 46 = .ok (.ldc 73, 2) := by decide +kernel
theorem dX3_wordHere_48 : decode cX3_wordHere 48 = .ok (.invokevirtual 65, 3) := by decide +kernel
theorem dX3_wordHere_51 : decode cX3_wordHere 51 = .ok (.ifCond .eq 5, 3) := by decide +kernel
theorem dX3_wordHere_54 : decode cX3_wordHere 54 = .ok (.iconst 3, 1) := by decide +kernel
theorem dX3_wordHere_55 : decode cX3_wordHere 55 = .ok (.ireturn, 1) := by decide +kernel
theorem dX3_wordHere_56 : decode cX3_wordHere 56 = .ok (.aload_n 0, 1) := by decide +kernel
theorem dX3_wordHere_57 : decode cX3_wordHere 57 = .ok (.getfield 12, 3) := by decide +kernel
theorem dX3_wordHere_60 : decode cX3_wordHere 60 = .ok (.ldc 75, 2) := by decide +kernel
theorem dX3_wordHere_62 : decode cX3_wordHere 62 = .ok (.invokevirtual 65, 3) := by decide +kernel
theorem dX3_wordHere_65 : decode cX3_wordHere 65 = .ok (.ifCond .eq 7, 3) := by decide +kernel
theorem dX3_wordHere_68 : decode cX3_wordHere 68 = .ok (.iconst 4, 1) := by decide +kernel
theorem dX3_wordHere_69 : decode cX3_wordHere 69 = .ok (.goto 4, 3) := by decide +kernel
theorem dX3_wordHere_72 : decode cX3_wordHere 72 = .ok (.iconst (-1), 1) := by decide +kernel
theorem dX3_wordHere_73 : decode cX3_wordHere 73 = .ok (.ireturn, 1) := by decide +kernel
theorem dX3_readNumbers_0 : decode cX3_readNumbers 0 = .ok (.iload_n 1, 1) := by decide +kernel
theorem dX3_readNumbers_1 : decode cX3_readNumbers 1 = .ok (.iconst 4, 1) := by decide +kernel
theorem dX3_readNumbers_2 : decode cX3_readNumbers 2 = .ok (.if_icmp .ne 5, 3) := by decide +kernel
theorem dX3_readNumbers_5 : decode cX3_readNumbers 5 = .ok (.iconst 1, 1) := by decide +kernel
theorem dX3_readNumbers_6 : decode cX3_readNumbers 6 = .ok (.ireturn, 1) := by decide +kernel
theorem dX3_readNumbers_7 : decode cX3_readNumbers 7 = .ok (.aload_n 0, 1) := by decide +kernel
theorem dX3_readNumbers_8 : decode cX3_readNumbers 8 = .ok (.getfield 12, 3) := by decide +kernel
theorem dX3_readNumbers_11 : decode cX3_readNumbers 11 = .ok (.invokevirtual 25, 3) := by decide +kernel
theorem dX3_readNumbers_14 : decode cX3_readNumbers 14 = .ok (.aload_n 0, 1) := by decide +kernel
theorem dX3_readNumbers_15 : decode cX3_readNumbers 15 = .ok (.getfield 12, 3) := by decide +kernel
theorem dX3_readNumbers_18 : decode cX3_readNumbers 18 = .ok (.invokevirtual 77, 3) := by decide +kernel
theorem dX3_readNumbers_21 : decode cX3_readNumbers 21 = .ok (.ifCond .ne 5, 3) := by decide +kernel
theorem dX3_readNumbers_24 : decode cX3_readNumbers 24 = .ok (.iconst 0, 1) := by decide +kernel
theorem dX3_readNumbers_25 : decode cX3_readNumbers 25 = .ok (.ireturn, 1) := by decide +kernel
theorem dX3_readNumbers_26 : decode cX3_readNumbers 26 = .ok (.aload_n 0, 1) := by decide +kernel
theorem dX3_readNumbers_27 : decode cX3_readNumbers 27 = .ok (.aload_n 0, 1) := by decide +kernel
theorem dX3_readNumbers_28 : decode cX3_readNumbers 28 = .ok (.getfield 12, 3) := by decide +kernel
theorem dX3_readNumbers_31 : decode cX3_readNumbers 31 = .ok (.invokevirtual 80, 3) := by decide +kernel
theorem dX3_readNumbers_34 : decode cX3_readNumbers 34 = .ok (.putfield 50, 3) := by decide +kernel
theorem dX3_readNumbers_37 : decode cX3_readNumbers 37 = .ok (.iload_n 1, 1) := by decide +kernel
theorem dX3_readNumbers_38 : decode cX3_readNumbers 38 = .ok (.iconst 1, 1) := by decide +kernel
theorem dX3_readNumbers_39 : decode cX3_readNumbers 39 = .ok (.if_icmp .ne 5, 3) := by decide +kernel
theorem dX3_readNumbers_42 : decode cX3_readNumbers 42 = .ok (.iconst 1, 1) := by decide +kernel
theorem dX3_readNumbers_43 : decode cX3_readNumbers 43 = .ok (.ireturn, 1) := by decide +kernel
theorem dX3_readNumbers_44 : decode cX3_readNumbers 44 = .ok (.aload_n 0, 1) := by decide +kernel
theorem dX3_readNumbers_45 : decode cX3_readNumbers 45 = .ok (.getfield 12, 3) := by decide +kernel
theorem dX3_readNumbers_48 : decode cX3_readNumbers 48 = .ok (.invokevirtual 25, 3) := by decide +kernel
theorem dX3_readNumbers_51 : decode cX3_readNumbers 51 = .ok (.iload_n 1, 1) := by decide +kernel
theorem dX3_readNumbers_52 : decode cX3_readNumbers 52 = .ok (.iconst 2, 1) := by decide +kernel
theorem dX3_readNumbers_53 : decode cX3_readNumbers 53 = .ok (.if_icmp .ne 16, 3) := by decide +kernel
theorem dX3_readNumbers_56 : decode cX3_readNumbers 56 = .ok (.aload_n 0, 1) := by decide +kernel
theorem dX3_readNumbers_57 : decode cX3_readNumbers 57 = .ok (.getfield 12, 3) := by decide +kernel
theorem dX3_readNumbers_60 : decode cX3_readNumbers 60 = .ok (.invokevirtual 77, 3) := by decide +kernel
theorem dX3_readNumbers_63 : decode cX3_readNumbers 63 = .ok (.ifCond .ne 18, 3) := by decide +kernel
theorem dX3_readNumbers_66 : decode cX3_readNumbers 66 = .ok (.goto 13, 3) := by decide +kernel
theorem dX3_readNumbers_69 : decode cX3_readNumbers 69 = .ok (.aload_n 0, 1) := by decide +kernel
theorem dX3_readNumbers_70 : decode cX3_readNumbers 70 = .ok (.getfield 12, 3) := by decide +kernel
theorem dX3_readNumbers_73 : decode cX3_readNumbers 73 = .ok (.invokevirtual 84, 3) := by decide +kernel
theorem dX3_readNumbers_76 : decode cX3_readNumbers 76 = .ok (.ifCond .ne 5, 3) := by decide +kernel
theorem dX3_readNumbers_79 : decode cX3_readNumbers 79 = .ok (.iconst 0, 1) := by decide +kernel
theorem dX3_readNumbers_80 : decode cX3_readNumbers 80 = .ok (.ireturn, 1) := by decide +kernel
theorem dX3_readNumbers_81 : decode cX3_readNumbers 81 = .ok (.aload_n 0, 1) := by decide +kernel
theorem dX3_readNumbers_82 : decode cX3_readNumbers 82 = .ok (.aload_n 0, 1) := by decide +kernel
theorem dX3_readNumbers_83 : decode cX3_readNumbers 83 = .ok (.getfield 12, 3) := by decide +kernel
theorem dX3_readNumbers_86 : decode cX3_readNumbers 86 = .ok (.invokevirtual 80, 3) := by decide +kernel
theorem dX3_readNumbers_89 : decode cX3_readNumbers 89 = .ok (.putfield 54, 3) := by decide +kernel
theorem dX3_readNumbers_92 : decode cX3_readNumbers 92 = .ok (.iconst 1, 1) := by decide +kernel
theorem dX3_readNumbers_93 : decode cX3_readNumbers 93 = .ok (.ireturn, 1) := by decide +kernel
theorem dX3_readSemicolon_0 : decode cX3_readSemicolon 0 = .ok (.aload_n 0, 1) := by decide +kernel
theorem dX3_readSemicolon_1 : decode cX3_readSemicolon 1 = .ok (.getfield 12, 3) := by decide +kernel
theorem dX3_readSemicolon_4 : decode cX3_readSemicolon 4 = .ok (.invokevirtual 25, 3) := by decide +kernel
theorem dX3_readSemicolon_7 : decode cX3_readSemicolon 7 = .ok (.aload_n 0, 1) := by decide +kernel
theorem dX3_readSemicolon_8 : decode cX3_readSemicolon 8 = .ok (.getfield 12, 3) := by decide +kernel
theorem dX3_readSemicolon_11 : decode cX3_readSemicolon 11 = .ok (.invokevirtual 87, 3) := by decide +kernel
theorem dX3_readSemicolon_14 : decode cX3_readSemicolon 14 = .ok (.ireturn, 1) := by decide +kernel
theorem dX3_fail_0 : decode cX3_fail 0 = .ok (.aload_n 0, 1) := by decide +kernel
theorem dX3_fail_1 : decode cX3_fail 1 = .ok (.iload_n 1, 1) := by decide +kernel
theorem dX3_fail_2 : decode cX3_fail 2 = .ok (.putfield 18, 3) := by decide +kernel
theorem dX3_fail_5 : decode cX3_fail 5 = .ok (.aload_n 0, 1) := by decide +kernel
theorem dX3_fail_6 : decode cX3_fail 6 = .ok (.iload_n 2, 1) := by decide +kernel
theorem dX3_fail_7 : decode cX3_fail 7 = .ok (.putfield 90, 3) := by decide +kernel
theorem dX3_fail_10 : decode cX3_fail 10 = .ok (.aload_n 0, 1) := by decide +kernel
theorem dX3_fail_11 : decode cX3_fail 11 = .ok (.iload_n 3, 1) := by decide +kernel
theorem dX3_fail_12 : decode cX3_fail 12 = .ok (.putfield 93, 3) := by decide +kernel
theorem dX3_fail_15 : decode cX3_fail 15 = .ok (.aload_n 0, 1) := by decide +kernel
theorem dX3_fail_16 : decode cX3_fail 16 = .ok (.iload 4, 2) := by decide +kernel
theorem dX3_fail_18 : decode cX3_fail 18 = .ok (.putfield 96, 3) := by decide +kernel
theorem dX3_fail_21 : decode cX3_fail 21 = .ok (.bipush (-9), 2) := by decide +kernel
theorem dX3_fail_23 : decode cX3_fail 23 = .ok (.ireturn, 1) := by decide +kernel
theorem dX4_init_0 : decode cX4_init 0 = .ok (.aload_n 0, 1) := by decide +kernel
theorem dX4_init_1 : decode cX4_init 1 = .ok (.invokespecial 3, 3) := by decide +kernel
theorem dX4_init_4 : decode cX4_init 4 = .ok (.aload_n 0, 1) := by decide +kernel
theorem dX4_init_5 : decode cX4_init 5 = .ok (.new 9, 3) := by decide +kernel
theorem dX4_init_8 : decode cX4_init 8 = .ok (.dup, 1) := by decide +kernel
theorem dX4_init_9 : decode cX4_init 9 = .ok (.invokespecial 11, 3) := by decide +kernel
theorem dX4_init_12 : decode cX4_init 12 = .ok (.putfield 12, 3) := by decide +kernel
theorem dX4_init_15 : decode cX4_init 15 = .ok (.aload_n 0, 1) := by decide +kernel
theorem dX4_init_16 : decode cX4_init 16 = .ok (.bipush 40, 2) := by decide +kernel
theorem dX4_init_18 : decode cX4_init 18 = .ok (.newarray .int, 2) := by decide +kernel
theorem dX4_init_20 : decode cX4_init 20 = .ok (.putfield 18, 3) := by decide +kernel
theorem dX4_init_23 : decode cX4_init 23 = .ok (.aload_n 0, 1) := by decide +kernel
theorem dX4_init_24 : decode cX4_init 24 = .ok (.sipush 480, 3) := by decide +kernel
theorem dX4_init_27 : decode cX4_init 27 = .ok (.newarray .int, 2) := by decide +kernel
theorem dX4_init_29 : decode cX4_init 29 = .ok (.putfield 22, 3) := by decide +kernel
theorem dX4_init_32 : decode cX4_init 32 = .ok (.aload_n 0, 1) := by decide +kernel
theorem dX4_init_33 : decode cX4_init 33 = .ok (.sipush 480, 3) := by decide +kernel
theorem dX4_init_36 : decode cX4_init 36 = .ok (.newarray .int, 2) := by decide +kernel
theorem dX4_init_38 : decode cX4_init 38 = .ok (.putfield 25, 3) := by decide +kernel
theorem dX4_init_41 : decode cX4_init 41 = .ok (.aload_n 0, 1) := by decide +kernel
theorem dX4_init_42 : decode cX4_init 42 = .ok (.sipush 480, 3) := by decide +kernel
theorem dX4_init_45 : decode cX4_init 45 = .ok (.newarray .int, 2) := by decide +kernel
theorem dX4_init_47 : decode cX4_init 47 = .ok (.putfield 28, 3) := by decide +kernel
theorem dX4_init_50 : decode cX4_init 50 = .ok (.aload_n 0, 1) := by decide +kernel
theorem dX4_init_51 : decode cX4_init 51 = .ok (.sipush 480, 3) := by decide +kernel
theorem dX4_init_54 : decode cX4_init 54 = .ok (.newarray .int, 2) := by decide +kernel
theorem dX4_init_56 : decode cX4_init 56 = .ok (.putfield 31, 3) := by decide +kernel
theorem dX4_init_59 : decode cX4_init 59 = .ok (.aload_n 0, 1) := by decide +kernel
theorem dX4_init_60 : decode cX4_init 60 = .ok (.sipush 480, 3) := by decide +kernel
theorem dX4_init_63 : decode cX4_init 63 = .ok (.newarray .int, 2) := by decide +kernel
theorem dX4_init_65 : decode cX4_init 65 = .ok (.putfield 34, 3) := by decide +kernel
theorem dX4_init_68 : decode cX4_init 68 = .ok (.aload_n 0, 1) := by decide +kernel
theorem dX4_init_69 : decode cX4_init 69 = .ok (.sipush 480, 3) := by decide +kernel
theorem dX4_init_72 : decode cX4_init 72 = .ok (.newarray .int, 2) := by decide +kernel
theorem dX4_init_74 : decode cX4_init 74 = .ok (.putfield 37, 3) := by decide +kernel
theorem dX4_init_77 : decode cX4_init 77 = .ok (.aload_n 0, 1) := by decide +kernel
theorem dX4_init_78 : decode cX4_init 78 = .ok (.sipush 480, 3) := by decide +kernel
theorem dX4_init_81 : decode cX4_init 81 = .ok (.newarray .int, 2) := by decide +kernel
theorem dX4_init_83 : decode cX4_init 83 = .ok (.putfield 40, 3) := by decide +kernel
theorem dX4_init_86 : decode cX4_init 86 = .ok (.aload_n 0, 1) := by decide +kernel
theorem dX4_init_87 : decode cX4_init 87 = .ok (.sipush 480, 3) := by decide +kernel
theorem dX4_init_90 : decode cX4_init 90 = .ok (.newarray .int, 2) := by decide +kernel
theorem dX4_init_92 : decode cX4_init 92 = .ok (.putfield 43, 3) := by decide +kernel
theorem dX4_init_95 : decode cX4_init 95 = .ok (.aload_n 0, 1) := by decide +kernel
theorem dX4_init_96 : decode cX4_init 96 = .ok (.sipush 480, 3) := by decide +kernel
theorem dX4_init_99 : decode cX4_init 99 = .ok (.newarray .int, 2) := by decide +kernel
theorem dX4_init_101 : decode cX4_init 101 = .ok (.putfield 46, 3) := by decide +kernel
theorem dX4_init_104 : decode cX4_init 104 = .ok (.aload_n 0, 1) := by decide +kernel
theorem dX4_init_105 : decode cX4_init 105 = .ok (.bipush 40, 2) := by decide +kernel
theorem dX4_init_107 : decode cX4_init 107 = .ok (.newarray .int, 2) := by decide +kernel
theorem dX4_init_109 : decode cX4_init 109 = .ok (.putfield 49, 3) := by decide +kernel
theorem dX4_init_112 : decode cX4_init 112 = .ok (.aload_n 0, 1) := by decide +kernel
theorem dX4_init_113 : decode cX4_init 113 = .ok (.bipush 40, 2) := by decide +kernel
theorem dX4_init_115 : decode cX4_init 115 = .ok (.newarray .int, 2) := by decide +kernel
theorem dX4_init_117 : decode cX4_init 117 = .ok (.putfield 52, 3) := by decide +kernel
theorem dX4_init_120 : decode cX4_init 120 = .ok (.aload_n 0, 1) := by decide +kernel
theorem dX4_init_121 : decode cX4_init 121 = .ok (.bipush 40, 2) := by decide +kernel
theorem dX4_init_123 : decode cX4_init 123 = .ok (.newarray .boolean, 2) := by decide +kernel
theorem dX4_init_125 : decode cX4_init 125 = .ok (.putfield 55, 3) := by decide +kernel
theorem dX4_init_128 : decode cX4_init 128 = .ok (.aload_n 0, 1) := by decide +kernel
theorem dX4_init_129 : decode cX4_init 129 = .ok (.bipush 40, 2) := by decide +kernel
theorem dX4_init_131 : decode cX4_init 131 = .ok (.newarray .int, 2) := by decide +kernel
theorem dX4_init_133 : decode cX4_init 133 = .ok (.putfield 59, 3) := by decide +kernel
theorem dX4_init_136 : decode cX4_init 136 = .ok (.return_, 1) := by decide +kernel
theorem dX4_workOut_0 : decode cX4_workOut 0 = .ok (.iconst 0, 1) := by decide +kernel
theorem dX4_workOut_1 : decode cX4_workOut 1 = .ok (.istore_n 1, 1) := by decide +kernel
theorem dX4_workOut_2 : decode cX4_workOut 2 = .ok (.iload_n 1, 1) := by decide +kernel
theorem dX4_workOut_3 : decode cX4_workOut 3 = .ok (.aload_n 0, 1) := by decide +kernel
theorem dX4_workOut_4 : decode cX4_workOut 4 = .ok (.getfield 12, 3) := by decide +kernel
theorem dX4_workOut_7 : decode cX4_workOut 7 = .ok (.getfield 62, 3) := by decide +kernel
theorem dX4_workOut_10 : decode cX4_workOut 10 = .ok (.if_icmp .ge 25, 3) := by decide +kernel
theorem dX4_workOut_13 : decode cX4_workOut 13 = .ok (.aload_n 0, 1) := by decide +kernel
theorem dX4_workOut_14 : decode cX4_workOut 14 = .ok (.getfield 18, 3) := by decide +kernel
theorem dX4_workOut_17 : decode cX4_workOut 17 = .ok (.iload_n 1, 1) := by decide +kernel
theorem dX4_workOut_18 : decode cX4_workOut 18 = .ok (.aload_n 0, 1) := by decide +kernel
theorem dX4_workOut_19 : decode cX4_workOut 19 = .ok (.iload_n 1, 1) := by decide +kernel
theorem dX4_workOut_20 : decode cX4_workOut 20 = .ok (.invokevirtual 66, 3) := by decide +kernel
theorem dX4_workOut_23 : decode cX4_workOut 23 = .ok (.iastore, 1) := by decide +kernel
theorem dX4_workOut_24 : decode cX4_workOut 24 = .ok (.aload_n 0, 1) := by decide +kernel
theorem dX4_workOut_25 : decode cX4_workOut 25 = .ok (.iload_n 1, 1) := by decide +kernel
theorem dX4_workOut_26 : decode cX4_workOut 26 = .ok (.invokevirtual 70, 3) := by decide +kernel
theorem dX4_workOut_29 : decode cX4_workOut 29 = .ok (.iinc 1 1, 3) := by decide +kernel
theorem dX4_workOut_32 : decode cX4_workOut 32 = .ok (.goto (-30), 3) := by decide +kernel
theorem dX4_workOut_35 : decode cX4_workOut 35 = .ok (.iconst 0, 1) := by decide +kernel
theorem dX4_workOut_36 : decode cX4_workOut 36 = .ok (.istore_n 1, 1) := by decide +kernel
theorem dX4_workOut_37 : decode cX4_workOut 37 = .ok (.iload_n 1, 1) := by decide +kernel
theorem dX4_workOut_38 : decode cX4_workOut 38 = .ok (.bipush 12, 2) := by decide +kernel
theorem dX4_workOut_40 : decode cX4_workOut 40 = .ok (.if_icmp .ge 19, 3) := by decide +kernel
theorem dX4_workOut_43 : decode cX4_workOut 43 = .ok (.aload_n 0, 1) := by decide +kernel
theorem dX4_workOut_44 : decode cX4_workOut 44 = .ok (.iload_n 1, 1) := by decide +kernel
theorem dX4_workOut_45 : decode cX4_workOut 45 = .ok (.invokevirtual 74, 3) := by decide +kernel
theorem dX4_workOut_48 : decode cX4_workOut 48 = .ok (.aload_n 0, 1) := by decide +kernel
theorem dX4_workOut_49 : decode cX4_workOut 49 = .ok (.iload_n 1, 1) := by decide +kernel
theorem dX4_workOut_50 : decode cX4_workOut 50 = .ok (.invokevirtual 77, 3) := by decide +kernel
theorem dX4_workOut_53 : decode cX4_workOut 53 = .ok (.iinc 1 1, 3) := by decide +kernel
theorem dX4_workOut_56 : decode cX4_workOut 56 = .ok (.goto (-19), 3) := by decide +kernel
theorem dX4_workOut_59 : decode cX4_workOut 59 = .ok (.aload_n 0, 1) := by decide +kernel
theorem dX4_workOut_60 : decode cX4_workOut 60 = .ok (.aload_n 0, 1) := by decide +kernel
theorem dX4_workOut_61 : decode cX4_workOut 61 = .ok (.getfield 12, 3) := by decide +kernel
theorem dX4_workOut_64 : decode cX4_workOut 64 = .ok (.getfield 80, 3) := by decide +kernel
theorem dX4_workOut_67 : decode cX4_workOut 67 = .ok (.iconst 0, 1) := by decide +kernel
theorem dX4_workOut_68 : decode cX4_workOut 68 = .ok (.iaload, 1) := by decide +kernel
theorem dX4_workOut_69 : decode cX4_workOut 69 = .ok (.invokevirtual 83, 3) := by decide +kernel
theorem dX4_workOut_72 : decode cX4_workOut 72 = .ok (.aload_n 0, 1) := by decide +kernel
theorem dX4_workOut_73 : decode cX4_workOut 73 = .ok (.invokevirtual 86, 3) := by decide +kernel
theorem dX4_workOut_76 : decode cX4_workOut 76 = .ok (.return_, 1) := by decide +kernel
theorem dX4_previousOf_0 : decode cX4_previousOf 0 = .ok (.iload_n 1, 1) := by decide +kernel
theorem dX4_previousOf_1 : decode cX4_previousOf 1 = .ok (.iconst 1, 1) := by decide +kernel
theorem dX4_previousOf_2 : decode cX4_previousOf 2 = .ok (.isub, 1) := by decide +kernel
theorem dX4_previousOf_3 : decode cX4_previousOf 3 = .ok (.istore_n 2, 1) := by decide +kernel
theorem dX4_previousOf_4 : decode cX4_previousOf 4 = .ok (.iload_n 2, 1) := by decide +kernel
theorem dX4_previousOf_5 : decode cX4_previousOf 5 = .ok (.ifCond .lt 57, 3) := by decide +kernel
theorem dX4_previousOf_8 : decode cX4_previousOf 8 = .ok (.aload_n 0, 1) := by decide +kernel
theorem dX4_previousOf_9 : decode cX4_previousOf 9 = .ok (.getfield 12, 3) := by decide +kernel
theorem dX4_previousOf_12 : decode cX4_previousOf 12 = .ok (.getfield 89, 3) := by decide +kernel
theorem dX4_previousOf_15 : decode cX4_previousOf 15 = .ok (.iload_n 2, 1) := by decide +kernel
theorem dX4_previousOf_16 : decode cX4_previousOf 16 = .ok (.iaload, 1) := by decide +kernel
theorem dX4_previousOf_17 : decode cX4_previousOf 17 = .ok (.aload_n 0, 1) := by decide +kernel
theorem dX4_previousOf_18 : decode cX4_previousOf 18 = .ok (.getfield 12, 3) := by decide +kernel
theorem dX4_previousOf_21 : decode cX4_previousOf 21 = .ok (.getfield 89, 3) := by decide +kernel
theorem dX4_previousOf_24 : decode cX4_previousOf 24 = .ok (.iload_n 1, 1) := by decide +kernel
theorem dX4_previousOf_25 : decode cX4_previousOf 25 = .ok (.iaload, 1) := by decide +kernel
theorem dX4_previousOf_26 : decode cX4_previousOf 26 = .ok (.if_icmp .ne 30, 3) := by decide +kernel
theorem dX4_previousOf_29 : decode cX4_previousOf 29 = .ok (.aload_n 0, 1) := by decide +kernel
theorem dX4_previousOf_30 : decode cX4_previousOf 30 = .ok (.getfield 12, 3) := by decide +kernel
theorem dX4_previousOf_33 : decode cX4_previousOf 33 = .ok (.getfield 92, 3) := by decide +kernel
theorem dX4_previousOf_36 : decode cX4_previousOf 36 = .ok (.iload_n 2, 1) := by decide +kernel
theorem dX4_previousOf_37 : decode cX4_previousOf 37 = .ok (.iaload, 1) := by decide +kernel
theorem dX4_previousOf_38 : decode cX4_previousOf 38 = .ok (.aload_n 0, 1) := by decide +kernel
theorem dX4_previousOf_39 : decode cX4_previousOf 39 = .ok (.getfield 12, 3) := by decide +kernel
theorem dX4_previousOf_42 : decode cX4_previousOf 42 = .ok (.getfield 92, 3) := by decide +kernel
theorem dX4_previousOf_45 : decode cX4_previousOf 45 = .ok (.iload_n 1, 1) := by decide +kernel
theorem dX4_previousOf_46 : decode cX4_previousOf 46 = .ok (.iaload, 1) := by decide +kernel
theorem dX4_previousOf_47 : decode cX4_previousOf 47 = .ok (.if_icmp .ne 7, 3) := by decide +kernel
theorem dX4_previousOf_50 : decode cX4_previousOf 50 = .ok (.iload_n 2, 1) := by decide +kernel
theorem dX4_previousOf_51 : decode cX4_previousOf 51 = .ok (.goto 4, 3) := by decide +kernel
theorem dX4_previousOf_54 : decode cX4_previousOf 54 = .ok (.iconst (-1), 1) := by decide +kernel
theorem dX4_previousOf_55 : decode cX4_previousOf 55 = .ok (.ireturn, 1) := by decide +kernel
theorem dX4_previousOf_56 : decode cX4_previousOf 56 = .ok (.iinc 2 (-1), 3) := by decide +kernel
theorem dX4_previousOf_59 : decode cX4_previousOf 59 = .ok (.goto (-55), 3) := by decide +kernel
theorem dX4_previousOf_62 : decode cX4_previousOf 62 = .ok (.iconst (-1), 1) := by decide +kernel
theorem dX4_previousOf_63 : decode cX4_previousOf 63 = .ok (.ireturn, 1) := by decide +kernel
theorem dX4_readDigits_0 : decode cX4_readDigits 0 = .ok (.iconst 0, 1) := by decide +kernel
theorem dX4_readDigits_1 : decode cX4_readDigits 1 = .ok (.istore_n 2, 1) := by decide +kernel
theorem dX4_readDigits_2 : decode cX4_readDigits 2 = .ok (.iload_n 2, 1) := by decide +kernel
theorem dX4_readDigits_3 : decode cX4_readDigits 3 = .ok (.bipush 12, 2) := by decide +kernel
theorem dX4_readDigits_5 : decode cX4_readDigits 5 = .ok (.if_icmp .ge 68, 3) := by decide +kernel
theorem dX4_readDigits_8 : decode cX4_readDigits 8 = .ok (.iload_n 1, 1) := by decide +kernel
theorem dX4_readDigits_9 : decode cX4_readDigits 9 = .ok (.bipush 12, 2) := by decide +kernel
theorem dX4_readDigits_11 : decode cX4_readDigits 11 = .ok (.imul, 1) := by decide +kernel
theorem dX4_readDigits_12 : decode cX4_readDigits 12 = .ok (.iload_n 2, 1) := by decide +kernel
theorem dX4_readDigits_13 : decode cX4_readDigits 13 = .ok (.iadd, 1) := by decide +kernel
theorem dX4_readDigits_14 : decode cX4_readDigits 14 = .ok (.istore_n 3, 1) := by decide +kernel
theorem dX4_readDigits_15 : decode cX4_readDigits 15 = .ok (.aload_n 0, 1) := by decide +kernel
theorem dX4_readDigits_16 : decode cX4_readDigits 16 = .ok (.getfield 22, 3) := by decide +kernel
theorem dX4_readDigits_19 : decode cX4_readDigits 19 = .ok (.iload_n 3, 1) := by decide +kernel
theorem dX4_readDigits_20 : decode cX4_readDigits 20 = .ok (.aload_n 0, 1) := by decide +kernel
theorem dX4_readDigits_21 : decode cX4_readDigits 21 = .ok (.getfield 12, 3) := by decide +kernel
theorem dX4_readDigits_24 : decode cX4_readDigits 24 = .ok (.getfield 95, 3) := by decide +kernel
theorem dX4_readDigits_27 : decode cX4_readDigits 27 = .ok (.iload_n 1, 1) := by decide +kernel
theorem dX4_readDigits_28 : decode cX4_readDigits 28 = .ok (.laload, 1) := by decide +kernel
theorem dX4_readDigits_29 : decode cX4_readDigits 29 = .ok (.getstatic 99, 3) := by decide +kernel
theorem dX4_readDigits_32 : decode cX4_readDigits 32 = .ok (.iload_n 2, 1) := by decide +kernel
theorem dX4_readDigits_33 : decode cX4_readDigits 33 = .ok (.laload, 1) := by decide +kernel
theorem dX4_readDigits_34 : decode cX4_readDigits 34 = .ok (.ldiv, 1) := by decide +kernel
theorem dX4_readDigits_35 : decode cX4_readDigits 35 = .ok (.ldc2_w 102, 3) := by decide +kernel
theorem dX4_readDigits_38 : decode cX4_readDigits 38 = .ok (.lrem, 1) := by decide +kernel
theorem dX4_readDigits_39 : decode cX4_readDigits 39 = .ok (.l2i, 1) := by decide +kernel
theorem dX4_readDigits_40 : decode cX4_readDigits 40 = .ok (.iastore, 1) := by decide +kernel
theorem dX4_readDigits_41 : decode cX4_readDigits 41 = .ok (.aload_n 0, 1) := by decide +kernel
theorem dX4_readDigits_42 : decode cX4_readDigits 42 = .ok (.getfield 25, 3) := by decide +kernel
theorem dX4_readDigits_45 : decode cX4_readDigits 45 = .ok (.iload_n 3, 1) := by decide +kernel
theorem dX4_readDigits_46 : decode cX4_readDigits 46 = .ok (.aload_n 0, 1) := by decide +kernel
theorem dX4_readDigits_47 : decode cX4_readDigits 47 = .ok (.getfield 12, 3) := by decide +kernel
theorem dX4_readDigits_50 : decode cX4_readDigits 50 = .ok (.getfield 104, 3) := by decide +kernel
theorem dX4_readDigits_53 : decode cX4_readDigits 53 = .ok (.iload_n 1, 1) := by decide +kernel
theorem dX4_readDigits_54 : decode cX4_readDigits 54 = .ok (.laload, 1) := by decide +kernel
theorem dX4_readDigits_55 : decode cX4_readDigits 55 = .ok (.getstatic 99, 3) := by decide +kernel
theorem dX4_readDigits_58 : decode cX4_readDigits 58 = .ok (.iload_n 2, 1) := by decide +kernel
theorem dX4_readDigits_59 : decode cX4_readDigits 59 = .ok (.laload, 1) := by decide +kernel
theorem dX4_readDigits_60 : decode cX4_readDigits 60 = .ok (.ldiv, 1) := by decide +kernel
theorem dX4_readDigits_61 : decode cX4_readDigits 61 = .ok (.ldc2_w 102, 3) := by decide +kernel
theorem dX4_readDigits_64 : decode cX4_readDigits 64 = .ok (.lrem, 1) := by decide +kernel
theorem dX4_readDigits_65 : decode cX4_readDigits 65 = .ok (.l2i, 1) := by decide +kernel
theorem dX4_readDigits_66 : decode cX4_readDigits 66 = .ok (.iastore, 1) := by decide +kernel
theorem dX4_readDigits_67 : decode cX4_readDigits 67 = .ok (.iinc 2 1, 3) := by decide +kernel
theorem dX4_readDigits_70 : decode cX4_readDigits 70 = .ok (.goto (-68), 3) := by decide +kernel
theorem dX4_readDigits_73 : decode cX4_readDigits 73 = .ok (.return_, 1) := by decide +kernel
theorem dX4_growRuns_0 : decode cX4_growRuns 0 = .ok (.iconst 0, 1) := by decide +kernel
theorem dX4_growRuns_1 : decode cX4_growRuns 1 = .ok (.istore_n 2, 1) := by decide +kernel
theorem dX4_growRuns_2 : decode cX4_growRuns 2 = .ok (.iload_n 2, 1) := by decide +kernel
theorem dX4_growRuns_3 : decode cX4_growRuns 3 = .ok (.aload_n 0, 1) := by decide +kernel
theorem dX4_growRuns_4 : decode cX4_growRuns 4 = .ok (.getfield 12, 3) := by decide +kernel
theorem dX4_growRuns_7 : decode cX4_growRuns 7 = .ok (.getfield 62, 3) := by decide +kernel
theorem dX4_growRuns_10 : decode cX4_growRuns 10 = .ok (.if_icmp .ge 153, 3) := by decide +kernel
theorem dX4_growRuns_13 : decode cX4_growRuns 13 = .ok (.iload_n 2, 1) := by decide +kernel
theorem dX4_growRuns_14 : decode cX4_growRuns 14 = .ok (.bipush 12, 2) := by decide +kernel
theorem dX4_growRuns_16 : decode cX4_growRuns 16 = .ok (.imul, 1) := by decide +kernel
theorem dX4_growRuns_17 : decode cX4_growRuns 17 = .ok (.iload_n 1, 1) := by decide +kernel
theorem dX4_growRuns_18 : decode cX4_growRuns 18 = .ok (.iadd, 1) := by decide +kernel
theorem dX4_growRuns_19 : decode cX4_growRuns 19 = .ok (.istore_n 3, 1) := by decide +kernel
theorem dX4_growRuns_20 : decode cX4_growRuns 20 = .ok (.aload_n 0, 1) := by decide +kernel
theorem dX4_growRuns_21 : decode cX4_growRuns 21 = .ok (.getfield 28, 3) := by decide +kernel
theorem dX4_growRuns_24 : decode cX4_growRuns 24 = .ok (.iload_n 3, 1) := by decide +kernel
theorem dX4_growRuns_25 : decode cX4_growRuns 25 = .ok (.iload_n 2, 1) := by decide +kernel
theorem dX4_growRuns_26 : decode cX4_growRuns 26 = .ok (.iastore, 1) := by decide +kernel
theorem dX4_growRuns_27 : decode cX4_growRuns 27 = .ok (.aload_n 0, 1) := by decide +kernel
theorem dX4_growRuns_28 : decode cX4_growRuns 28 = .ok (.getfield 31, 3) := by decide +kernel
theorem dX4_growRuns_31 : decode cX4_growRuns 31 = .ok (.iload_n 3, 1) := by decide +kernel
theorem dX4_growRuns_32 : decode cX4_growRuns 32 = .ok (.iload_n 2, 1) := by decide +kernel
theorem dX4_growRuns_33 : decode cX4_growRuns 33 = .ok (.iastore, 1) := by decide +kernel
theorem dX4_growRuns_34 : decode cX4_growRuns 34 = .ok (.aload_n 0, 1) := by decide +kernel
theorem dX4_growRuns_35 : decode cX4_growRuns 35 = .ok (.getfield 34, 3) := by decide +kernel
theorem dX4_growRuns_38 : decode cX4_growRuns 38 = .ok (.iload_n 3, 1) := by decide +kernel
theorem dX4_growRuns_39 : decode cX4_growRuns 39 = .ok (.aload_n 0, 1) := by decide +kernel
theorem dX4_growRuns_40 : decode cX4_growRuns 40 = .ok (.getfield 22, 3) := by decide +kernel
theorem dX4_growRuns_43 : decode cX4_growRuns 43 = .ok (.iload_n 3, 1) := by decide +kernel
theorem dX4_growRuns_44 : decode cX4_growRuns 44 = .ok (.iaload, 1) := by decide +kernel
theorem dX4_growRuns_45 : decode cX4_growRuns 45 = .ok (.ifCond .le 7, 3) := by decide +kernel
theorem dX4_growRuns_48 : decode cX4_growRuns 48 = .ok (.iconst 1, 1) := by decide +kernel
theorem dX4_growRuns_49 : decode cX4_growRuns 49 = .ok (.goto 4, 3) := by decide +kernel
theorem dX4_growRuns_52 : decode cX4_growRuns 52 = .ok (.iconst 0, 1) := by decide +kernel
theorem dX4_growRuns_53 : decode cX4_growRuns 53 = .ok (.iastore, 1) := by decide +kernel
theorem dX4_growRuns_54 : decode cX4_growRuns 54 = .ok (.aload_n 0, 1) := by decide +kernel
theorem dX4_growRuns_55 : decode cX4_growRuns 55 = .ok (.getfield 37, 3) := by decide +kernel
theorem dX4_growRuns_58 : decode cX4_growRuns 58 = .ok (.iload_n 3, 1) := by decide +kernel
theorem dX4_growRuns_59 : decode cX4_growRuns 59 = .ok (.aload_n 0, 1) := by decide +kernel
theorem dX4_growRuns_60 : decode cX4_growRuns 60 = .ok (.iload_n 2, 1) := by decide +kernel
theorem dX4_growRuns_61 : decode cX4_growRuns 61 = .ok (.iload_n 3, 1) := by decide +kernel
theorem dX4_growRuns_62 : decode cX4_growRuns 62 = .ok (.invokevirtual 107, 3) := by decide +kernel
theorem dX4_growRuns_65 : decode cX4_growRuns 65 = .ok (.iastore, 1) := by decide +kernel
theorem dX4_growRuns_66 : decode cX4_growRuns 66 = .ok (.aload_n 0, 1) := by decide +kernel
theorem dX4_growRuns_67 : decode cX4_growRuns 67 = .ok (.getfield 18, 3) := by decide +kernel
theorem dX4_growRuns_70 : decode cX4_growRuns 70 = .ok (.iload_n 2, 1) := by decide +kernel
theorem dX4_growRuns_71 : decode cX4_growRuns 71 = .ok (.iaload, 1) := by decide +kernel
theorem dX4_growRuns_72 : decode cX4_growRuns 72 = .ok (.bipush 12, 2) := by decide +kernel
theorem dX4_growRuns_74 : decode cX4_growRuns 74 = .ok (.imul, 1) := by decide +kernel
theorem dX4_growRuns_75 : decode cX4_growRuns 75 = .ok (.iload_n 1, 1) := by decide +kernel
theorem dX4_growRuns_76 : decode cX4_growRuns 76 = .ok (.iadd, 1) := by decide +kernel
theorem dX4_growRuns_77 : decode cX4_growRuns 77 = .ok (.istore 4, 2) := by decide +kernel
theorem dX4_growRuns_79 : decode cX4_growRuns 79 = .ok (.aload_n 0, 1) := by decide +kernel
theorem dX4_growRuns_80 : decode cX4_growRuns 80 = .ok (.getfield 18, 3) := by decide +kernel
theorem dX4_growRuns_83 : decode cX4_growRuns 83 = .ok (.iload_n 2, 1) := by decide +kernel
theorem dX4_growRuns_84 : decode cX4_growRuns 84 = .ok (.iaload, 1) := by decide +kernel
theorem dX4_growRuns_85 : decode cX4_growRuns 85 = .ok (.ifCond .lt 72, 3) := by decide +kernel
theorem dX4_growRuns_88 : decode cX4_growRuns 88 = .ok (.aload_n 0, 1) := by decide +kernel
theorem dX4_growRuns_89 : decode cX4_growRuns 89 = .ok (.getfield 22, 3) := by decide +kernel
theorem dX4_growRuns_92 : decode cX4_growRuns 92 = .ok (.iload 4, 2) := by decide +kernel
theorem dX4_growRuns_94 : decode cX4_growRuns 94 = .ok (.iaload, 1) := by decide +kernel
theorem dX4_growRuns_95 : decode cX4_growRuns 95 = .ok (.ifCond .le 62, 3) := by decide +kernel
theorem dX4_growRuns_98 : decode cX4_growRuns 98 = .ok (.aload_n 0, 1) := by decide +kernel
theorem dX4_growRuns_99 : decode cX4_growRuns 99 = .ok (.getfield 22, 3) := by decide +kernel
theorem dX4_growRuns_102 : decode cX4_growRuns 102 = .ok (.iload_n 3, 1) := by decide +kernel
theorem dX4_growRuns_103 : decode cX4_growRuns 103 = .ok (.iaload, 1) := by decide +kernel
theorem dX4_growRuns_104 : decode cX4_growRuns 104 = .ok (.ifCond .le 53, 3) := by decide +kernel
theorem dX4_growRuns_107 : decode cX4_growRuns 107 = .ok (.aload_n 0, 1) := by decide +kernel
theorem dX4_growRuns_108 : decode cX4_growRuns 108 = .ok (.getfield 28, 3) := by decide +kernel
theorem dX4_growRuns_111 : decode cX4_growRuns 111 = .ok (.iload_n 3, 1) := by decide +kernel
theorem dX4_growRuns_112 : decode cX4_growRuns 112 = .ok (.aload_n 0, 1) := by decide +kernel
theorem dX4_growRuns_113 : decode cX4_growRuns 113 = .ok (.getfield 28, 3) := by decide +kernel
theorem dX4_growRuns_116 : decode cX4_growRuns 116 = .ok (.iload 4, 2) := by decide +kernel
theorem dX4_growRuns_118 : decode cX4_growRuns 118 = .ok (.iaload, 1) := by decide +kernel
theorem dX4_growRuns_119 : decode cX4_growRuns 119 = .ok (.iastore, 1) := by decide +kernel
theorem dX4_growRuns_120 : decode cX4_growRuns 120 = .ok (.aload_n 0, 1) := by decide +kernel
theorem dX4_growRuns_121 : decode cX4_growRuns 121 = .ok (.getfield 34, 3) := by decide +kernel
theorem dX4_growRuns_124 : decode cX4_growRuns 124 = .ok (.iload_n 3, 1) := by decide +kernel
theorem dX4_growRuns_125 : decode cX4_growRuns 125 = .ok (.aload_n 0, 1) := by decide +kernel
theorem dX4_growRuns_126 : decode cX4_growRuns 126 = .ok (.getfield 34, 3) := by decide +kernel
theorem dX4_growRuns_129 : decode cX4_growRuns 129 = .ok (.iload 4, 2) := by decide +kernel
theorem dX4_growRuns_131 : decode cX4_growRuns 131 = .ok (.iaload, 1) := by decide +kernel
theorem dX4_growRuns_132 : decode cX4_growRuns 132 = .ok (.iconst 1, 1) := by decide +kernel
theorem dX4_growRuns_133 : decode cX4_growRuns 133 = .ok (.iadd, 1) := by decide +kernel
theorem dX4_growRuns_134 : decode cX4_growRuns 134 = .ok (.iastore, 1) := by decide +kernel
theorem dX4_growRuns_135 : decode cX4_growRuns 135 = .ok (.aload_n 0, 1) := by decide +kernel
theorem dX4_growRuns_136 : decode cX4_growRuns 136 = .ok (.getfield 37, 3) := by decide +kernel
theorem dX4_growRuns_139 : decode cX4_growRuns 139 = .ok (.iload_n 3, 1) := by decide +kernel
theorem dX4_growRuns_140 : decode cX4_growRuns 140 = .ok (.aload_n 0, 1) := by decide +kernel
theorem dX4_growRuns_141 : decode cX4_growRuns 141 = .ok (.getfield 37, 3) := by decide +kernel
theorem dX4_growRuns_144 : decode cX4_growRuns 144 = .ok (.iload 4, 2) := by decide +kernel
theorem dX4_growRuns_146 : decode cX4_growRuns 146 = .ok (.iaload, 1) := by decide +kernel
theorem dX4_growRuns_147 : decode cX4_growRuns 147 = .ok (.aload_n 0, 1) := by decide +kernel
theorem dX4_growRuns_148 : decode cX4_growRuns 148 = .ok (.getfield 37, 3) := by decide +kernel
theorem dX4_growRuns_151 : decode cX4_growRuns 151 = .ok (.iload_n 3, 1) := by decide +kernel
theorem dX4_growRuns_152 : decode cX4_growRuns 152 = .ok (.iaload, 1) := by decide +kernel
theorem dX4_growRuns_153 : decode cX4_growRuns 153 = .ok (.invokestatic 111, 3) := by decide +kernel
theorem dX4_growRuns_156 : decode cX4_growRuns 156 = .ok (.iastore, 1) := by decide +kernel
theorem dX4_growRuns_157 : decode cX4_growRuns 157 = .ok (.iinc 2 1, 3) := by decide +kernel
theorem dX4_growRuns_160 : decode cX4_growRuns 160 = .ok (.goto (-158), 3) := by decide +kernel
theorem dX4_growRuns_163 : decode cX4_growRuns 163 = .ok (.return_, 1) := by decide +kernel
theorem dX4_closeRuns_0 : decode cX4_closeRuns 0 = .ok (.aload_n 0, 1) := by decide +kernel
theorem dX4_closeRuns_1 : decode cX4_closeRuns 1 = .ok (.getfield 12, 3) := by decide +kernel
theorem dX4_closeRuns_4 : decode cX4_closeRuns 4 = .ok (.getfield 62, 3) := by decide +kernel
theorem dX4_closeRuns_7 : decode cX4_closeRuns 7 = .ok (.iconst 1, 1) := by decide +kernel
theorem dX4_closeRuns_8 : decode cX4_closeRuns 8 = .ok (.isub, 1) := by decide +kernel
theorem dX4_closeRuns_9 : decode cX4_closeRuns 9 = .ok (.istore_n 2, 1) := by decide +kernel
theorem dX4_closeRuns_10 : decode cX4_closeRuns 10 = .ok (.iload_n 2, 1) := by decide +kernel
theorem dX4_closeRuns_11 : decode cX4_closeRuns 11 = .ok (.ifCond .lt 96, 3) := by decide +kernel
theorem dX4_closeRuns_14 : decode cX4_closeRuns 14 = .ok (.iload_n 2, 1) := by decide +kernel
theorem dX4_closeRuns_15 : decode cX4_closeRuns 15 = .ok (.bipush 12, 2) := by decide +kernel
theorem dX4_closeRuns_17 : decode cX4_closeRuns 17 = .ok (.imul, 1) := by decide +kernel
theorem dX4_closeRuns_18 : decode cX4_closeRuns 18 = .ok (.iload_n 1, 1) := by decide +kernel
theorem dX4_closeRuns_19 : decode cX4_closeRuns 19 = .ok (.iadd, 1) := by decide +kernel
theorem dX4_closeRuns_20 : decode cX4_closeRuns 20 = .ok (.istore_n 3, 1) := by decide +kernel
theorem dX4_closeRuns_21 : decode cX4_closeRuns 21 = .ok (.aload_n 0, 1) := by decide +kernel
theorem dX4_closeRuns_22 : decode cX4_closeRuns 22 = .ok (.getfield 18, 3) := by decide +kernel
theorem dX4_closeRuns_25 : decode cX4_closeRuns 25 = .ok (.iload_n 2, 1) := by decide +kernel
theorem dX4_closeRuns_26 : decode cX4_closeRuns 26 = .ok (.iaload, 1) := by decide +kernel
theorem dX4_closeRuns_27 : decode cX4_closeRuns 27 = .ok (.bipush 12, 2) := by decide +kernel
theorem dX4_closeRuns_29 : decode cX4_closeRuns 29 = .ok (.imul, 1) := by decide +kernel
theorem dX4_closeRuns_30 : decode cX4_closeRuns 30 = .ok (.iload_n 1, 1) := by decide +kernel
theorem dX4_closeRuns_31 : decode cX4_closeRuns 31 = .ok (.iadd, 1) := by decide +kernel
theorem dX4_closeRuns_32 : decode cX4_closeRuns 32 = .ok (.istore 4, 2) := by decide +kernel
theorem dX4_closeRuns_34 : decode cX4_closeRuns 34 = .ok (.aload_n 0, 1) := by decide +kernel
theorem dX4_closeRuns_35 : decode cX4_closeRuns 35 = .ok (.getfield 18, 3) := by decide +kernel
theorem dX4_closeRuns_38 : decode cX4_closeRuns 38 = .ok (.iload_n 2, 1) := by decide +kernel
theorem dX4_closeRuns_39 : decode cX4_closeRuns 39 = .ok (.iaload, 1) := by decide +kernel
theorem dX4_closeRuns_40 : decode cX4_closeRuns 40 = .ok (.ifCond .lt 61, 3) := by decide +kernel
theorem dX4_closeRuns_43 : decode cX4_closeRuns 43 = .ok (.aload_n 0, 1) := by decide +kernel
theorem dX4_closeRuns_44 : decode cX4_closeRuns 44 = .ok (.getfield 22, 3) := by decide +kernel
theorem dX4_closeRuns_47 : decode cX4_closeRuns 47 = .ok (.iload 4, 2) := by decide +kernel
theorem dX4_closeRuns_49 : decode cX4_closeRuns 49 = .ok (.iaload, 1) := by decide +kernel
theorem dX4_closeRuns_50 : decode cX4_closeRuns 50 = .ok (.ifCond .le 51, 3) := by decide +kernel
theorem dX4_closeRuns_53 : decode cX4_closeRuns 53 = .ok (.aload_n 0, 1) := by decide +kernel
theorem dX4_closeRuns_54 : decode cX4_closeRuns 54 = .ok (.getfield 22, 3) := by decide +kernel
theorem dX4_closeRuns_57 : decode cX4_closeRuns 57 = .ok (.iload_n 3, 1) := by decide +kernel
theorem dX4_closeRuns_58 : decode cX4_closeRuns 58 = .ok (.iaload, 1) := by decide +kernel
theorem dX4_closeRuns_59 : decode cX4_closeRuns 59 = .ok (.ifCond .le 42, 3) := by decide +kernel
theorem dX4_closeRuns_62 : decode cX4_closeRuns 62 = .ok (.aload_n 0, 1) := by decide +kernel
theorem dX4_closeRuns_63 : decode cX4_closeRuns 63 = .ok (.getfield 31, 3) := by decide +kernel
theorem dX4_closeRuns_66 : decode cX4_closeRuns 66 = .ok (.iload 4, 2) := by decide +kernel
theorem dX4_closeRuns_68 : decode cX4_closeRuns 68 = .ok (.aload_n 0, 1) := by decide +kernel
theorem dX4_closeRuns_69 : decode cX4_closeRuns 69 = .ok (.getfield 31, 3) := by decide +kernel
theorem dX4_closeRuns_72 : decode cX4_closeRuns 72 = .ok (.iload_n 3, 1) := by decide +kernel
theorem dX4_closeRuns_73 : decode cX4_closeRuns 73 = .ok (.iaload, 1) := by decide +kernel
theorem dX4_closeRuns_74 : decode cX4_closeRuns 74 = .ok (.iastore, 1) := by decide +kernel
theorem dX4_closeRuns_75 : decode cX4_closeRuns 75 = .ok (.aload_n 0, 1) := by decide +kernel
theorem dX4_closeRuns_76 : decode cX4_closeRuns 76 = .ok (.getfield 34, 3) := by decide +kernel
theorem dX4_closeRuns_79 : decode cX4_closeRuns 79 = .ok (.iload 4, 2) := by decide +kernel
theorem dX4_closeRuns_81 : decode cX4_closeRuns 81 = .ok (.aload_n 0, 1) := by decide +kernel
theorem dX4_closeRuns_82 : decode cX4_closeRuns 82 = .ok (.getfield 34, 3) := by decide +kernel
theorem dX4_closeRuns_85 : decode cX4_closeRuns 85 = .ok (.iload_n 3, 1) := by decide +kernel
theorem dX4_closeRuns_86 : decode cX4_closeRuns 86 = .ok (.iaload, 1) := by decide +kernel
theorem dX4_closeRuns_87 : decode cX4_closeRuns 87 = .ok (.iastore, 1) := by decide +kernel
theorem dX4_closeRuns_88 : decode cX4_closeRuns 88 = .ok (.aload_n 0, 1) := by decide +kernel
theorem dX4_closeRuns_89 : decode cX4_closeRuns 89 = .ok (.getfield 37, 3) := by decide +kernel
theorem dX4_closeRuns_92 : decode cX4_closeRuns 92 = .ok (.iload 4, 2) := by decide +kernel
theorem dX4_closeRuns_94 : decode cX4_closeRuns 94 = .ok (.aload_n 0, 1) := by decide +kernel
theorem dX4_closeRuns_95 : decode cX4_closeRuns 95 = .ok (.getfield 37, 3) := by decide +kernel
theorem dX4_closeRuns_98 : decode cX4_closeRuns 98 = .ok (.iload_n 3, 1) := by decide +kernel
theorem dX4_closeRuns_99 : decode cX4_closeRuns 99 = .ok (.iaload, 1) := by decide +kernel
theorem dX4_closeRuns_100 : decode cX4_closeRuns 100 = .ok (.iastore, 1) := by decide +kernel
theorem dX4_closeRuns_101 : decode cX4_closeRuns 101 = .ok (.iinc 2 (-1), 3) := by decide +kernel
theorem dX4_closeRuns_104 : decode cX4_closeRuns 104 = .ok (.goto (-94), 3) := by decide +kernel
theorem dX4_closeRuns_107 : decode cX4_closeRuns 107 = .ok (.return_, 1) := by decide +kernel
theorem dX4_ownDirt_0 : decode cX4_ownDirt 0 = .ok (.aload_n 0, 1) := by decide +kernel
theorem dX4_ownDirt_1 : decode cX4_ownDirt 1 = .ok (.getfield 12, 3) := by decide +kernel
theorem dX4_ownDirt_4 : decode cX4_ownDirt 4 = .ok (.getfield 116, 3) := by decide +kernel
theorem dX4_ownDirt_7 : decode cX4_ownDirt 7 = .ok (.iload_n 1, 1) := by decide +kernel
theorem dX4_ownDirt_8 : decode cX4_ownDirt 8 = .ok (.iaload, 1) := by decide +kernel
theorem dX4_ownDirt_9 : decode cX4_ownDirt 9 = .ok (.iconst 2, 1) := by decide +kernel
theorem dX4_ownDirt_10 : decode cX4_ownDirt 10 = .ok (.if_icmp .eq 10, 3) := by decide +kernel
theorem dX4_ownDirt_13 : decode cX4_ownDirt 13 = .ok (.aload_n 0, 1) := by decide +kernel
theorem dX4_ownDirt_14 : decode cX4_ownDirt 14 = .ok (.getfield 22, 3) := by decide +kernel
theorem dX4_ownDirt_17 : decode cX4_ownDirt 17 = .ok (.iload_n 2, 1) := by decide +kernel
theorem dX4_ownDirt_18 : decode cX4_ownDirt 18 = .ok (.iaload, 1) := by decide +kernel
theorem dX4_ownDirt_19 : decode cX4_ownDirt 19 = .ok (.ireturn, 1) := by decide +kernel
theorem dX4_ownDirt_20 : decode cX4_ownDirt 20 = .ok (.iconst 0, 1) := by decide +kernel
theorem dX4_ownDirt_21 : decode cX4_ownDirt 21 = .ok (.aload_n 0, 1) := by decide +kernel
theorem dX4_ownDirt_22 : decode cX4_ownDirt 22 = .ok (.getfield 22, 3) := by decide +kernel
theorem dX4_ownDirt_25 : decode cX4_ownDirt 25 = .ok (.iload_n 2, 1) := by decide +kernel
theorem dX4_ownDirt_26 : decode cX4_ownDirt 26 = .ok (.iaload, 1) := by decide +kernel
theorem dX4_ownDirt_27 : decode cX4_ownDirt 27 = .ok (.aload_n 0, 1) := by decide +kernel
theorem dX4_ownDirt_28 : decode cX4_ownDirt 28 = .ok (.getfield 25, 3) := by decide +kernel
theorem dX4_ownDirt_31 : decode cX4_ownDirt 31 = .ok (.iload_n 2, 1) := by decide +kernel
theorem dX4_ownDirt_32 : decode cX4_ownDirt 32 = .ok (.iaload, 1) := by decide +kernel
theorem dX4_ownDirt_33 : decode cX4_ownDirt 33 = .ok (.isub, 1) := by decide +kernel
theorem dX4_ownDirt_34 : decode cX4_ownDirt 34 = .ok (.invokestatic 119, 3) := by decide +kernel
theorem dX4_ownDirt_37 : decode cX4_ownDirt 37 = .ok (.ireturn, 1) := by decide +kernel
theorem dX4_judgeWith_0 : decode cX4_judgeWith 0 = .ok (.iconst 0, 1) := by decide +kernel
theorem dX4_judgeWith_1 : decode cX4_judgeWith 1 = .ok (.istore_n 2, 1) := by decide +kernel
theorem dX4_judgeWith_2 : decode cX4_judgeWith 2 = .ok (.iload_n 2, 1) := by decide +kernel
theorem dX4_judgeWith_3 : decode cX4_judgeWith 3 = .ok (.aload_n 0, 1) := by decide +kernel
theorem dX4_judgeWith_4 : decode cX4_judgeWith 4 = .ok (.getfield 12, 3) := by decide +kernel
theorem dX4_judgeWith_7 : decode cX4_judgeWith 7 = .ok (.getfield 62, 3) := by decide +kernel
theorem dX4_judgeWith_10 : decode cX4_judgeWith 10 = .ok (.if_icmp .ge 214, 3) := by decide +kernel
theorem dX4_judgeWith_13 : decode cX4_judgeWith 13 = .ok (.aload_n 0, 1) := by decide +kernel
theorem dX4_judgeWith_14 : decode cX4_judgeWith 14 = .ok (.getfield 12, 3) := by decide +kernel
theorem dX4_judgeWith_17 : decode cX4_judgeWith 17 = .ok (.getfield 116, 3) := by decide +kernel
theorem dX4_judgeWith_20 : decode cX4_judgeWith 20 = .ok (.iload_n 2, 1) := by decide +kernel
theorem dX4_judgeWith_21 : decode cX4_judgeWith 21 = .ok (.iaload, 1) := by decide +kernel
theorem dX4_judgeWith_22 : decode cX4_judgeWith 22 = .ok (.iconst 2, 1) := by decide +kernel
theorem dX4_judgeWith_23 : decode cX4_judgeWith 23 = .ok (.if_icmp .ne 7, 3) := by decide +kernel
theorem dX4_judgeWith_26 : decode cX4_judgeWith 26 = .ok (.iconst 1, 1) := by decide +kernel
theorem dX4_judgeWith_27 : decode cX4_judgeWith 27 = .ok (.goto 4, 3) := by decide +kernel
theorem dX4_judgeWith_30 : decode cX4_judgeWith 30 = .ok (.iconst 0, 1) := by decide +kernel
theorem dX4_judgeWith_31 : decode cX4_judgeWith 31 = .ok (.istore_n 3, 1) := by decide +kernel
theorem dX4_judgeWith_32 : decode cX4_judgeWith 32 = .ok (.iconst 0, 1) := by decide +kernel
theorem dX4_judgeWith_33 : decode cX4_judgeWith 33 = .ok (.istore 4, 2) := by decide +kernel
theorem dX4_judgeWith_35 : decode cX4_judgeWith 35 = .ok (.iload 4, 2) := by decide +kernel
theorem dX4_judgeWith_37 : decode cX4_judgeWith 37 = .ok (.bipush 12, 2) := by decide +kernel
theorem dX4_judgeWith_39 : decode cX4_judgeWith 39 = .ok (.if_icmp .ge 102, 3) := by decide +kernel
theorem dX4_judgeWith_42 : decode cX4_judgeWith 42 = .ok (.iload_n 2, 1) := by decide +kernel
theorem dX4_judgeWith_43 : decode cX4_judgeWith 43 = .ok (.bipush 12, 2) := by decide +kernel
theorem dX4_judgeWith_45 : decode cX4_judgeWith 45 = .ok (.imul, 1) := by decide +kernel
theorem dX4_judgeWith_46 : decode cX4_judgeWith 46 = .ok (.iload 4, 2) := by decide +kernel
theorem dX4_judgeWith_48 : decode cX4_judgeWith 48 = .ok (.iadd, 1) := by decide +kernel
theorem dX4_judgeWith_49 : decode cX4_judgeWith 49 = .ok (.istore 5, 2) := by decide +kernel
theorem dX4_judgeWith_51 : decode cX4_judgeWith 51 = .ok (.aload_n 0, 1) := by decide +kernel
theorem dX4_judgeWith_52 : decode cX4_judgeWith 52 = .ok (.getfield 40, 3) := by decide +kernel
theorem dX4_judgeWith_55 : decode cX4_judgeWith 55 = .ok (.iload 5, 2) := by decide +kernel
theorem dX4_judgeWith_57 : decode cX4_judgeWith 57 = .ok (.aload_n 0, 1) := by decide +kernel
theorem dX4_judgeWith_58 : decode cX4_judgeWith 58 = .ok (.getfield 34, 3) := by decide +kernel
theorem dX4_judgeWith_61 : decode cX4_judgeWith 61 = .ok (.iload 5, 2) := by decide +kernel
theorem dX4_judgeWith_63 : decode cX4_judgeWith 63 = .ok (.iaload, 1) := by decide +kernel
theorem dX4_judgeWith_64 : decode cX4_judgeWith 64 = .ok (.iload_n 1, 1) := by decide +kernel
theorem dX4_judgeWith_65 : decode cX4_judgeWith 65 = .ok (.if_icmp .lt 13, 3) := by decide +kernel
theorem dX4_judgeWith_68 : decode cX4_judgeWith 68 = .ok (.aload_n 0, 1) := by decide +kernel
theorem dX4_judgeWith_69 : decode cX4_judgeWith 69 = .ok (.getfield 37, 3) := by decide +kernel
theorem dX4_judgeWith_72 : decode cX4_judgeWith 72 = .ok (.iload 5, 2) := by decide +kernel
theorem dX4_judgeWith_74 : decode cX4_judgeWith 74 = .ok (.iaload, 1) := by decide +kernel
theorem dX4_judgeWith_75 : decode cX4_judgeWith 75 = .ok (.goto 4, 3) := by decide +kernel
theorem dX4_judgeWith_78 : decode cX4_judgeWith 78 = .ok (.iconst 0, 1) := by decide +kernel
theorem dX4_judgeWith_79 : decode cX4_judgeWith 79 = .ok (.iastore, 1) := by decide +kernel
theorem dX4_judgeWith_80 : decode cX4_judgeWith 80 = .ok (.aload_n 0, 1) := by decide +kernel
theorem dX4_judgeWith_81 : decode cX4_judgeWith 81 = .ok (.getfield 43, 3) := by decide +kernel
theorem dX4_judgeWith_84 : decode cX4_judgeWith 84 = .ok (.iload 5, 2) := by decide +kernel
theorem dX4_judgeWith_86 : decode cX4_judgeWith 86 = .ok (.iload_n 3, 1) := by decide +kernel
theorem dX4_judgeWith_87 : decode cX4_judgeWith 87 = .ok (.ifCond .eq 13, 3) := by decide +kernel
theorem dX4_judgeWith_90 : decode cX4_judgeWith 90 = .ok (.aload_n 0, 1) := by decide +kernel
theorem dX4_judgeWith_91 : decode cX4_judgeWith 91 = .ok (.getfield 25, 3) := by decide +kernel
theorem dX4_judgeWith_94 : decode cX4_judgeWith 94 = .ok (.iload 5, 2) := by decide +kernel
theorem dX4_judgeWith_96 : decode cX4_judgeWith 96 = .ok (.iaload, 1) := by decide +kernel
theorem dX4_judgeWith_97 : decode cX4_judgeWith 97 = .ok (.goto 18, 3) := by decide +kernel
theorem dX4_judgeWith_100 : decode cX4_judgeWith 100 = .ok (.aload_n 0, 1) := by decide +kernel
theorem dX4_judgeWith_101 : decode cX4_judgeWith 101 = .ok (.getfield 22, 3) := by decide +kernel
theorem dX4_judgeWith_104 : decode cX4_judgeWith 104 = .ok (.iload 5, 2) := by decide +kernel
theorem dX4_judgeWith_106 : decode cX4_judgeWith 106 = .ok (.iaload, 1) := by decide +kernel
theorem dX4_judgeWith_107 : decode cX4_judgeWith 107 = .ok (.aload_n 0, 1) := by decide +kernel
theorem dX4_judgeWith_108 : decode cX4_judgeWith 108 = .ok (.getfield 40, 3) := by decide +kernel
theorem dX4_judgeWith_111 : decode cX4_judgeWith 111 = .ok (.iload 5, 2) := by decide +kernel
theorem dX4_judgeWith_113 : decode cX4_judgeWith 113 = .ok (.iaload, 1) := by decide +kernel
theorem dX4_judgeWith_114 : decode cX4_judgeWith 114 = .ok (.isub, 1) := by decide +kernel
theorem dX4_judgeWith_115 : decode cX4_judgeWith 115 = .ok (.iastore, 1) := by decide +kernel
theorem dX4_judgeWith_116 : decode cX4_judgeWith 116 = .ok (.aload_n 0, 1) := by decide +kernel
theorem dX4_judgeWith_117 : decode cX4_judgeWith 117 = .ok (.getfield 46, 3) := by decide +kernel
theorem dX4_judgeWith_120 : decode cX4_judgeWith 120 = .ok (.iload 5, 2) := by decide +kernel
theorem dX4_judgeWith_122 : decode cX4_judgeWith 122 = .ok (.aload_n 0, 1) := by decide +kernel
theorem dX4_judgeWith_123 : decode cX4_judgeWith 123 = .ok (.aload_n 0, 1) := by decide +kernel
theorem dX4_judgeWith_124 : decode cX4_judgeWith 124 = .ok (.getfield 43, 3) := by decide +kernel
theorem dX4_judgeWith_127 : decode cX4_judgeWith 127 = .ok (.iload 5, 2) := by decide +kernel
theorem dX4_judgeWith_129 : decode cX4_judgeWith 129 = .ok (.iaload, 1) := by decide +kernel
theorem dX4_judgeWith_130 : decode cX4_judgeWith 130 = .ok (.iload_n 3, 1) := by decide +kernel
theorem dX4_judgeWith_131 : decode cX4_judgeWith 131 = .ok (.invokevirtual 122, 3) := by decide +kernel
theorem dX4_judgeWith_134 : decode cX4_judgeWith 134 = .ok (.iastore, 1) := by decide +kernel
theorem dX4_judgeWith_135 : decode cX4_judgeWith 135 = .ok (.iinc 4 1, 3) := by decide +kernel
theorem dX4_judgeWith_138 : decode cX4_judgeWith 138 = .ok (.goto (-103), 3) := by decide +kernel
theorem dX4_judgeWith_141 : decode cX4_judgeWith 141 = .ok (.aload_n 0, 1) := by decide +kernel
theorem dX4_judgeWith_142 : decode cX4_judgeWith 142 = .ok (.getfield 49, 3) := by decide +kernel
theorem dX4_judgeWith_145 : decode cX4_judgeWith 145 = .ok (.iload_n 2, 1) := by decide +kernel
theorem dX4_judgeWith_146 : decode cX4_judgeWith 146 = .ok (.iconst 0, 1) := by decide +kernel
theorem dX4_judgeWith_147 : decode cX4_judgeWith 147 = .ok (.iastore, 1) := by decide +kernel
theorem dX4_judgeWith_148 : decode cX4_judgeWith 148 = .ok (.aload_n 0, 1) := by decide +kernel
theorem dX4_judgeWith_149 : decode cX4_judgeWith 149 = .ok (.getfield 52, 3) := by decide +kernel
theorem dX4_judgeWith_152 : decode cX4_judgeWith 152 = .ok (.iload_n 2, 1) := by decide +kernel
theorem dX4_judgeWith_153 : decode cX4_judgeWith 153 = .ok (.iconst 0, 1) := by decide +kernel
theorem dX4_judgeWith_154 : decode cX4_judgeWith 154 = .ok (.iastore, 1) := by decide +kernel
theorem dX4_judgeWith_155 : decode cX4_judgeWith 155 = .ok (.iconst 0, 1) := by decide +kernel
theorem dX4_judgeWith_156 : decode cX4_judgeWith 156 = .ok (.istore 4, 2) := by decide +kernel
theorem dX4_judgeWith_158 : decode cX4_judgeWith 158 = .ok (.iload 4, 2) := by decide +kernel
theorem dX4_judgeWith_160 : decode cX4_judgeWith 160 = .ok (.iconst 4, 1) := by decide +kernel
theorem dX4_judgeWith_161 : decode cX4_judgeWith 161 = .ok (.if_icmp .ge 57, 3) := by decide +kernel
theorem dX4_judgeWith_164 : decode cX4_judgeWith 164 = .ok (.aload_n 0, 1) := by decide +kernel
theorem dX4_judgeWith_165 : decode cX4_judgeWith 165 = .ok (.iload_n 2, 1) := by decide +kernel
theorem dX4_judgeWith_166 : decode cX4_judgeWith 166 = .ok (.iload 4, 2) := by decide +kernel
theorem dX4_judgeWith_168 : decode cX4_judgeWith 168 = .ok (.invokevirtual 126, 3) := by decide +kernel
theorem dX4_judgeWith_171 : decode cX4_judgeWith 171 = .ok (.istore 5, 2) := by decide +kernel
theorem dX4_judgeWith_173 : decode cX4_judgeWith 173 = .ok (.aload_n 0, 1) := by decide +kernel
theorem dX4_judgeWith_174 : decode cX4_judgeWith 174 = .ok (.getfield 49, 3) := by decide +kernel
theorem dX4_judgeWith_177 : decode cX4_judgeWith 177 = .ok (.iload_n 2, 1) := by decide +kernel
theorem dX4_judgeWith_178 : decode cX4_judgeWith 178 = .ok (.dup2, 1) := by decide +kernel
theorem dX4_judgeWith_179 : decode cX4_judgeWith 179 = .ok (.iaload, 1) := by decide +kernel
theorem dX4_judgeWith_180 : decode cX4_judgeWith 180 = .ok (.iload 5, 2) := by decide +kernel
theorem dX4_judgeWith_182 : decode cX4_judgeWith 182 = .ok (.iconst 3, 1) := by decide +kernel
theorem dX4_judgeWith_183 : decode cX4_judgeWith 183 = .ok (.iload 4, 2) := by decide +kernel
theorem dX4_judgeWith_185 : decode cX4_judgeWith 185 = .ok (.imul, 1) := by decide +kernel
theorem dX4_judgeWith_186 : decode cX4_judgeWith 186 = .ok (.ishl, 1) := by decide +kernel
theorem dX4_judgeWith_187 : decode cX4_judgeWith 187 = .ok (.ior, 1) := by decide +kernel
theorem dX4_judgeWith_188 : decode cX4_judgeWith 188 = .ok (.iastore, 1) := by decide +kernel
theorem dX4_judgeWith_189 : decode cX4_judgeWith 189 = .ok (.aload_n 0, 1) := by decide +kernel
theorem dX4_judgeWith_190 : decode cX4_judgeWith 190 = .ok (.getfield 52, 3) := by decide +kernel
theorem dX4_judgeWith_193 : decode cX4_judgeWith 193 = .ok (.iload_n 2, 1) := by decide +kernel
theorem dX4_judgeWith_194 : decode cX4_judgeWith 194 = .ok (.dup2, 1) := by decide +kernel
theorem dX4_judgeWith_195 : decode cX4_judgeWith 195 = .ok (.iaload, 1) := by decide +kernel
theorem dX4_judgeWith_196 : decode cX4_judgeWith 196 = .ok (.iload 5, 2) := by decide +kernel
theorem dX4_judgeWith_198 : decode cX4_judgeWith 198 = .ok (.iconst 5, 1) := by decide +kernel
theorem dX4_judgeWith_199 : decode cX4_judgeWith 199 = .ok (.if_icmp .ne 10, 3) := by decide +kernel
theorem dX4_judgeWith_202 : decode cX4_judgeWith 202 = .ok (.iconst 1, 1) := by decide +kernel
theorem dX4_judgeWith_203 : decode cX4_judgeWith 203 = .ok (.iload 4, 2) := by decide +kernel
theorem dX4_judgeWith_205 : decode cX4_judgeWith 205 = .ok (.ishl, 1) := by decide +kernel
theorem dX4_judgeWith_206 : decode cX4_judgeWith 206 = .ok (.goto 4, 3) := by decide +kernel
theorem dX4_judgeWith_209 : decode cX4_judgeWith 209 = .ok (.iconst 0, 1) := by decide +kernel
theorem dX4_judgeWith_210 : decode cX4_judgeWith 210 = .ok (.ior, 1) := by decide +kernel
theorem dX4_judgeWith_211 : decode cX4_judgeWith 211 = .ok (.iastore, 1) := by decide +kernel
theorem dX4_judgeWith_212 : decode cX4_judgeWith 212 = .ok (.iinc 4 1, 3) := by decide +kernel
theorem dX4_judgeWith_215 : decode cX4_judgeWith 215 = .ok (.goto (-57), 3) := by decide +kernel
theorem dX4_judgeWith_218 : decode cX4_judgeWith 218 = .ok (.iinc 2 1, 3) := by decide +kernel
theorem dX4_judgeWith_221 : decode cX4_judgeWith 221 = .ok (.goto (-219), 3) := by decide +kernel
theorem dX4_judgeWith_224 : decode cX4_judgeWith 224 = .ok (.return_, 1) := by decide +kernel
theorem dX4_markOf_0 : decode cX4_markOf 0 = .ok (.iload_n 1, 1) := by decide +kernel
theorem dX4_markOf_1 : decode cX4_markOf 1 = .ok (.aload_n 0, 1) := by decide +kernel
theorem dX4_markOf_2 : decode cX4_markOf 2 = .ok (.getfield 12, 3) := by decide +kernel
theorem dX4_markOf_5 : decode cX4_markOf 5 = .ok (.getfield 80, 3) := by decide +kernel
theorem dX4_markOf_8 : decode cX4_markOf 8 = .ok (.iconst 1, 1) := by decide +kernel
theorem dX4_markOf_9 : decode cX4_markOf 9 = .ok (.iaload, 1) := by decide +kernel
theorem dX4_markOf_10 : decode cX4_markOf 10 = .ok (.if_icmp .lt 5, 3) := by decide +kernel
theorem dX4_markOf_13 : decode cX4_markOf 13 = .ok (.iconst 2, 1) := by decide +kernel
theorem dX4_markOf_14 : decode cX4_markOf 14 = .ok (.ireturn, 1) := by decide +kernel
theorem dX4_markOf_15 : decode cX4_markOf 15 = .ok (.iload_n 2, 1) := by decide +kernel
theorem dX4_markOf_16 : decode cX4_markOf 16 = .ok (.ifCond .ne 20, 3) := by decide +kernel
theorem dX4_markOf_19 : decode cX4_markOf 19 = .ok (.iload_n 1, 1) := by decide +kernel
theorem dX4_markOf_20 : decode cX4_markOf 20 = .ok (.aload_n 0, 1) := by decide +kernel
theorem dX4_markOf_21 : decode cX4_markOf 21 = .ok (.getfield 12, 3) := by decide +kernel
theorem dX4_markOf_24 : decode cX4_markOf 24 = .ok (.getfield 80, 3) := by decide +kernel
theorem dX4_markOf_27 : decode cX4_markOf 27 = .ok (.iconst 2, 1) := by decide +kernel
theorem dX4_markOf_28 : decode cX4_markOf 28 = .ok (.iaload, 1) := by decide +kernel
theorem dX4_markOf_29 : decode cX4_markOf 29 = .ok (.if_icmp .lt 7, 3) := by decide +kernel
theorem dX4_markOf_32 : decode cX4_markOf 32 = .ok (.iconst 1, 1) := by decide +kernel
theorem dX4_markOf_33 : decode cX4_markOf 33 = .ok (.goto 4, 3) := by decide +kernel
theorem dX4_markOf_36 : decode cX4_markOf 36 = .ok (.iconst 0, 1) := by decide +kernel
theorem dX4_markOf_37 : decode cX4_markOf 37 = .ok (.ireturn, 1) := by decide +kernel
theorem dX4_judgedOutcome_0 : decode cX4_judgedOutcome 0 = .ok (.iconst 0, 1) := by decide +kernel
theorem dX4_judgedOutcome_1 : decode cX4_judgedOutcome 1 = .ok (.istore_n 3, 1) := by decide +kernel
theorem dX4_judgedOutcome_2 : decode cX4_judgedOutcome 2 = .ok (.iconst 0, 1) := by decide +kernel
theorem dX4_judgedOutcome_3 : decode cX4_judgedOutcome 3 = .ok (.istore 4, 2) := by decide +kernel
theorem dX4_judgedOutcome_5 : decode cX4_judgedOutcome 5 = .ok (.iconst 3, 1) := by decide +kernel
theorem dX4_judgedOutcome_6 : decode cX4_judgedOutcome 6 = .ok (.istore 5, 2) := by decide +kernel
theorem dX4_judgedOutcome_8 : decode cX4_judgedOutcome 8 = .ok (.iconst 0, 1) := by decide +kernel
theorem dX4_judgedOutcome_9 : decode cX4_judgedOutcome 9 = .ok (.istore 6, 2) := by decide +kernel
theorem dX4_judgedOutcome_11 : decode cX4_judgedOutcome 11 = .ok (.iload 6, 2) := by decide +kernel
theorem dX4_judgedOutcome_13 : decode cX4_judgedOutcome 13 = .ok (.iconst 3, 1) := by decide +kernel
theorem dX4_judgedOutcome_14 : decode cX4_judgedOutcome 14 = .ok (.if_icmp .ge 52, 3) := by decide +kernel
theorem dX4_judgedOutcome_17 : decode cX4_judgedOutcome 17 = .ok (.aload_n 0, 1) := by decide +kernel
theorem dX4_judgedOutcome_18 : decode cX4_judgedOutcome 18 = .ok (.getfield 46, 3) := by decide +kernel
theorem dX4_judgedOutcome_21 : decode cX4_judgedOutcome 21 = .ok (.iload_n 1, 1) := by decide +kernel
theorem dX4_judgedOutcome_22 : decode cX4_judgedOutcome 22 = .ok (.bipush 12, 2) := by decide +kernel
theorem dX4_judgedOutcome_24 : decode cX4_judgedOutcome 24 = .ok (.imul, 1) := by decide +kernel
theorem dX4_judgedOutcome_25 : decode cX4_judgedOutcome 25 = .ok (.iload_n 2, 1) := by decide +kernel
theorem dX4_judgedOutcome_26 : decode cX4_judgedOutcome 26 = .ok (.iconst 3, 1) := by decide +kernel
theorem dX4_judgedOutcome_27 : decode cX4_judgedOutcome 27 = .ok (.imul, 1) := by decide +kernel
theorem dX4_judgedOutcome_28 : decode cX4_judgedOutcome 28 = .ok (.iadd, 1) := by decide +kernel
theorem dX4_judgedOutcome_29 : decode cX4_judgedOutcome 29 = .ok (.iload 6, 2) := by decide +kernel
theorem dX4_judgedOutcome_31 : decode cX4_judgedOutcome 31 = .ok (.iadd, 1) := by decide +kernel
theorem dX4_judgedOutcome_32 : decode cX4_judgedOutcome 32 = .ok (.iaload, 1) := by decide +kernel
theorem dX4_judgedOutcome_33 : decode cX4_judgedOutcome 33 = .ok (.istore 7, 2) := by decide +kernel
theorem dX4_judgedOutcome_35 : decode cX4_judgedOutcome 35 = .ok (.iload 7, 2) := by decide +kernel
theorem dX4_judgedOutcome_37 : decode cX4_judgedOutcome 37 = .ok (.iconst 2, 1) := by decide +kernel
theorem dX4_judgedOutcome_38 : decode cX4_judgedOutcome 38 = .ok (.if_icmp .ne 13, 3) := by decide +kernel
theorem dX4_judgedOutcome_41 : decode cX4_judgedOutcome 41 = .ok (.iinc 3 1, 3) := by decide +kernel
theorem dX4_judgedOutcome_44 : decode cX4_judgedOutcome 44 = .ok (.iload 6, 2) := by decide +kernel
theorem dX4_judgedOutcome_46 : decode cX4_judgedOutcome 46 = .ok (.istore 5, 2) := by decide +kernel
theorem dX4_judgedOutcome_48 : decode cX4_judgedOutcome 48 = .ok (.goto 12, 3) := by decide +kernel
theorem dX4_judgedOutcome_51 : decode cX4_judgedOutcome 51 = .ok (.iload 7, 2) := by decide +kernel
theorem dX4_judgedOutcome_53 : decode cX4_judgedOutcome 53 = .ok (.iconst 1, 1) := by decide +kernel
theorem dX4_judgedOutcome_54 : decode cX4_judgedOutcome 54 = .ok (.if_icmp .ne 6, 3) := by decide +kernel
theorem dX4_judgedOutcome_57 : decode cX4_judgedOutcome 57 = .ok (.iinc 4 1, 3) := by decide +kernel
theorem dX4_judgedOutcome_60 : decode cX4_judgedOutcome 60 = .ok (.iinc 6 1, 3) := by decide +kernel
theorem dX4_judgedOutcome_63 : decode cX4_judgedOutcome 63 = .ok (.goto (-52), 3) := by decide +kernel
theorem dX4_judgedOutcome_66 : decode cX4_judgedOutcome 66 = .ok (.iload_n 3, 1) := by decide +kernel
theorem dX4_judgedOutcome_67 : decode cX4_judgedOutcome 67 = .ok (.iconst 1, 1) := by decide +kernel
theorem dX4_judgedOutcome_68 : decode cX4_judgedOutcome 68 = .ok (.if_icmp .le 5, 3) := by decide +kernel
theorem dX4_judgedOutcome_71 : decode cX4_judgedOutcome 71 = .ok (.iconst 4, 1) := by decide +kernel
theorem dX4_judgedOutcome_72 : decode cX4_judgedOutcome 72 = .ok (.ireturn, 1) := by decide +kernel
theorem dX4_judgedOutcome_73 : decode cX4_judgedOutcome 73 = .ok (.iload 4, 2) := by decide +kernel
theorem dX4_judgedOutcome_75 : decode cX4_judgedOutcome 75 = .ok (.ifCond .le 7, 3) := by decide +kernel
theorem dX4_judgedOutcome_78 : decode cX4_judgedOutcome 78 = .ok (.iconst 5, 1) := by decide +kernel
theorem dX4_judgedOutcome_79 : decode cX4_judgedOutcome 79 = .ok (.goto 5, 3) := by decide +kernel
theorem dX4_judgedOutcome_82 : decode cX4_judgedOutcome 82 = .ok (.iload 5, 2) := by decide +kernel
theorem dX4_judgedOutcome_84 : decode cX4_judgedOutcome 84 = .ok (.ireturn, 1) := by decide +kernel
theorem dX4_compareWithLast_0 : decode cX4_compareWithLast 0 = .ok (.aload_n 0, 1) := by decide +kernel
theorem dX4_compareWithLast_1 : decode cX4_compareWithLast 1 = .ok (.getfield 12, 3) := by decide +kernel
theorem dX4_compareWithLast_4 : decode cX4_compareWithLast 4 = .ok (.getfield 129, 3) := by decide +kernel
theorem dX4_compareWithLast_7 : decode cX4_compareWithLast 7 = .ok (.iconst 1, 1) := by decide +kernel
theorem dX4_compareWithLast_8 : decode cX4_compareWithLast 8 = .ok (.isub, 1) := by decide +kernel
theorem dX4_compareWithLast_9 : decode cX4_compareWithLast 9 = .ok (.istore_n 1, 1) := by decide +kernel
theorem dX4_compareWithLast_10 : decode cX4_compareWithLast 10 = .ok (.aload_n 0, 1) := by decide +kernel
theorem dX4_compareWithLast_11 : decode cX4_compareWithLast 11 = .ok (.getfield 12, 3) := by decide +kernel
theorem dX4_compareWithLast_14 : decode cX4_compareWithLast 14 = .ok (.iload_n 1, 1) := by decide +kernel
theorem dX4_compareWithLast_15 : decode cX4_compareWithLast 15 = .ok (.invokevirtual 132, 3) := by decide +kernel
theorem dX4_compareWithLast_18 : decode cX4_compareWithLast 18 = .ok (.ifCond .eq 15, 3) := by decide +kernel
theorem dX4_compareWithLast_21 : decode cX4_compareWithLast 21 = .ok (.aload_n 0, 1) := by decide +kernel
theorem dX4_compareWithLast_22 : decode cX4_compareWithLast 22 = .ok (.getfield 12, 3) := by decide +kernel
theorem dX4_compareWithLast_25 : decode cX4_compareWithLast 25 = .ok (.getfield 136, 3) := by decide +kernel
theorem dX4_compareWithLast_28 : decode cX4_compareWithLast 28 = .ok (.iload_n 1, 1) := by decide +kernel
theorem dX4_compareWithLast_29 : decode cX4_compareWithLast 29 = .ok (.iaload, 1) := by decide +kernel
theorem dX4_compareWithLast_30 : decode cX4_compareWithLast 30 = .ok (.goto 4, 3) := by decide +kernel
theorem dX4_compareWithLast_33 : decode cX4_compareWithLast 33 = .ok (.iconst 0, 1) := by decide +kernel
theorem dX4_compareWithLast_34 : decode cX4_compareWithLast 34 = .ok (.istore_n 2, 1) := by decide +kernel
theorem dX4_compareWithLast_35 : decode cX4_compareWithLast 35 = .ok (.iconst 0, 1) := by decide +kernel
theorem dX4_compareWithLast_36 : decode cX4_compareWithLast 36 = .ok (.istore_n 3, 1) := by decide +kernel
theorem dX4_compareWithLast_37 : decode cX4_compareWithLast 37 = .ok (.iload_n 3, 1) := by decide +kernel
theorem dX4_compareWithLast_38 : decode cX4_compareWithLast 38 = .ok (.aload_n 0, 1) := by decide +kernel
theorem dX4_compareWithLast_39 : decode cX4_compareWithLast 39 = .ok (.getfield 12, 3) := by decide +kernel
theorem dX4_compareWithLast_42 : decode cX4_compareWithLast 42 = .ok (.getfield 62, 3) := by decide +kernel
theorem dX4_compareWithLast_45 : decode cX4_compareWithLast 45 = .ok (.if_icmp .ge 48, 3) := by decide +kernel
theorem dX4_compareWithLast_48 : decode cX4_compareWithLast 48 = .ok (.aload_n 0, 1) := by decide +kernel
theorem dX4_compareWithLast_49 : decode cX4_compareWithLast 49 = .ok (.getfield 55, 3) := by decide +kernel
theorem dX4_compareWithLast_52 : decode cX4_compareWithLast 52 = .ok (.iload_n 3, 1) := by decide +kernel
theorem dX4_compareWithLast_53 : decode cX4_compareWithLast 53 = .ok (.iload_n 3, 1) := by decide +kernel
theorem dX4_compareWithLast_54 : decode cX4_compareWithLast 54 = .ok (.iload_n 2, 1) := by decide +kernel
theorem dX4_compareWithLast_55 : decode cX4_compareWithLast 55 = .ok (.if_icmp .ge 30, 3) := by decide +kernel
theorem dX4_compareWithLast_58 : decode cX4_compareWithLast 58 = .ok (.aload_n 0, 1) := by decide +kernel
theorem dX4_compareWithLast_59 : decode cX4_compareWithLast 59 = .ok (.getfield 49, 3) := by decide +kernel
theorem dX4_compareWithLast_62 : decode cX4_compareWithLast 62 = .ok (.iload_n 3, 1) := by decide +kernel
theorem dX4_compareWithLast_63 : decode cX4_compareWithLast 63 = .ok (.iaload, 1) := by decide +kernel
theorem dX4_compareWithLast_64 : decode cX4_compareWithLast 64 = .ok (.aload_n 0, 1) := by decide +kernel
theorem dX4_compareWithLast_65 : decode cX4_compareWithLast 65 = .ok (.getfield 12, 3) := by decide +kernel
theorem dX4_compareWithLast_68 : decode cX4_compareWithLast 68 = .ok (.getfield 139, 3) := by decide +kernel
theorem dX4_compareWithLast_71 : decode cX4_compareWithLast 71 = .ok (.iload_n 1, 1) := by decide +kernel
theorem dX4_compareWithLast_72 : decode cX4_compareWithLast 72 = .ok (.bipush 40, 2) := by decide +kernel
theorem dX4_compareWithLast_74 : decode cX4_compareWithLast 74 = .ok (.imul, 1) := by decide +kernel
theorem dX4_compareWithLast_75 : decode cX4_compareWithLast 75 = .ok (.iload_n 3, 1) := by decide +kernel
theorem dX4_compareWithLast_76 : decode cX4_compareWithLast 76 = .ok (.iadd, 1) := by decide +kernel
theorem dX4_compareWithLast_77 : decode cX4_compareWithLast 77 = .ok (.iaload, 1) := by decide +kernel
theorem dX4_compareWithLast_78 : decode cX4_compareWithLast 78 = .ok (.if_icmp .eq 7, 3) := by decide +kernel
theorem dX4_compareWithLast_81 : decode cX4_compareWithLast 81 = .ok (.iconst 1, 1) := by decide +kernel
theorem dX4_compareWithLast_82 : decode cX4_compareWithLast 82 = .ok (.goto 4, 3) := by decide +kernel
theorem dX4_compareWithLast_85 : decode cX4_compareWithLast 85 = .ok (.iconst 0, 1) := by decide +kernel
theorem dX4_compareWithLast_86 : decode cX4_compareWithLast 86 = .ok (.bastore, 1) := by decide +kernel
theorem dX4_compareWithLast_87 : decode cX4_compareWithLast 87 = .ok (.iinc 3 1, 3) := by decide +kernel
theorem dX4_compareWithLast_90 : decode cX4_compareWithLast 90 = .ok (.goto (-53), 3) := by decide +kernel
theorem dX4_compareWithLast_93 : decode cX4_compareWithLast 93 = .ok (.return_, 1) := by decide +kernel
theorem dX4_streaks_0 : decode cX4_streaks 0 = .ok (.iconst 0, 1) := by decide +kernel
theorem dX4_streaks_1 : decode cX4_streaks 1 = .ok (.istore_n 1, 1) := by decide +kernel
theorem dX4_streaks_2 : decode cX4_streaks 2 = .ok (.iconst 0, 1) := by decide +kernel
theorem dX4_streaks_3 : decode cX4_streaks 3 = .ok (.istore_n 2, 1) := by decide +kernel
theorem dX4_streaks_4 : decode cX4_streaks 4 = .ok (.iload_n 2, 1) := by decide +kernel
theorem dX4_streaks_5 : decode cX4_streaks 5 = .ok (.aload_n 0, 1) := by decide +kernel
theorem dX4_streaks_6 : decode cX4_streaks 6 = .ok (.getfield 12, 3) := by decide +kernel
theorem dX4_streaks_9 : decode cX4_streaks 9 = .ok (.getfield 62, 3) := by decide +kernel
theorem dX4_streaks_12 : decode cX4_streaks 12 = .ok (.if_icmp .ge 64, 3) := by decide +kernel
theorem dX4_streaks_15 : decode cX4_streaks 15 = .ok (.iconst 0, 1) := by decide +kernel
theorem dX4_streaks_16 : decode cX4_streaks 16 = .ok (.istore_n 3, 1) := by decide +kernel
theorem dX4_streaks_17 : decode cX4_streaks 17 = .ok (.iload_n 3, 1) := by decide +kernel
theorem dX4_streaks_18 : decode cX4_streaks 18 = .ok (.bipush 12, 2) := by decide +kernel
theorem dX4_streaks_20 : decode cX4_streaks 20 = .ok (.if_icmp .ge 50, 3) := by decide +kernel
theorem dX4_streaks_23 : decode cX4_streaks 23 = .ok (.iload_n 2, 1) := by decide +kernel
theorem dX4_streaks_24 : decode cX4_streaks 24 = .ok (.bipush 12, 2) := by decide +kernel
theorem dX4_streaks_26 : decode cX4_streaks 26 = .ok (.imul, 1) := by decide +kernel
theorem dX4_streaks_27 : decode cX4_streaks 27 = .ok (.iload_n 3, 1) := by decide +kernel
theorem dX4_streaks_28 : decode cX4_streaks 28 = .ok (.iadd, 1) := by decide +kernel
theorem dX4_streaks_29 : decode cX4_streaks 29 = .ok (.istore 4, 2) := by decide +kernel
theorem dX4_streaks_31 : decode cX4_streaks 31 = .ok (.aload_n 0, 1) := by decide +kernel
theorem dX4_streaks_32 : decode cX4_streaks 32 = .ok (.getfield 28, 3) := by decide +kernel
theorem dX4_streaks_35 : decode cX4_streaks 35 = .ok (.iload 4, 2) := by decide +kernel
theorem dX4_streaks_37 : decode cX4_streaks 37 = .ok (.iaload, 1) := by decide +kernel
theorem dX4_streaks_38 : decode cX4_streaks 38 = .ok (.iload_n 2, 1) := by decide +kernel
theorem dX4_streaks_39 : decode cX4_streaks 39 = .ok (.if_icmp .ne 25, 3) := by decide +kernel
theorem dX4_streaks_42 : decode cX4_streaks 42 = .ok (.aload_n 0, 1) := by decide +kernel
theorem dX4_streaks_43 : decode cX4_streaks 43 = .ok (.getfield 34, 3) := by decide +kernel
theorem dX4_streaks_46 : decode cX4_streaks 46 = .ok (.iload 4, 2) := by decide +kernel
theorem dX4_streaks_48 : decode cX4_streaks 48 = .ok (.iaload, 1) := by decide +kernel
theorem dX4_streaks_49 : decode cX4_streaks 49 = .ok (.aload_n 0, 1) := by decide +kernel
theorem dX4_streaks_50 : decode cX4_streaks 50 = .ok (.getfield 12, 3) := by decide +kernel
theorem dX4_streaks_53 : decode cX4_streaks 53 = .ok (.getfield 80, 3) := by decide +kernel
theorem dX4_streaks_56 : decode cX4_streaks 56 = .ok (.iconst 0, 1) := by decide +kernel
theorem dX4_streaks_57 : decode cX4_streaks 57 = .ok (.iaload, 1) := by decide +kernel
theorem dX4_streaks_58 : decode cX4_streaks 58 = .ok (.if_icmp .lt 6, 3) := by decide +kernel
theorem dX4_streaks_61 : decode cX4_streaks 61 = .ok (.iinc 1 1, 3) := by decide +kernel
theorem dX4_streaks_64 : decode cX4_streaks 64 = .ok (.iinc 3 1, 3) := by decide +kernel
theorem dX4_streaks_67 : decode cX4_streaks 67 = .ok (.goto (-50), 3) := by decide +kernel
theorem dX4_streaks_70 : decode cX4_streaks 70 = .ok (.iinc 2 1, 3) := by decide +kernel
theorem dX4_streaks_73 : decode cX4_streaks 73 = .ok (.goto (-69), 3) := by decide +kernel
theorem dX4_streaks_76 : decode cX4_streaks 76 = .ok (.iload_n 1, 1) := by decide +kernel
theorem dX4_streaks_77 : decode cX4_streaks 77 = .ok (.ireturn, 1) := by decide +kernel
theorem dX4_outcomesIn_0 : decode cX4_outcomesIn 0 = .ok (.aload_n 0, 1) := by decide +kernel
theorem dX4_outcomesIn_1 : decode cX4_outcomesIn 1 = .ok (.getfield 12, 3) := by decide +kernel
theorem dX4_outcomesIn_4 : decode cX4_outcomesIn 4 = .ok (.iload_n 2, 1) := by decide +kernel
theorem dX4_outcomesIn_5 : decode cX4_outcomesIn 5 = .ok (.invokevirtual 142, 3) := by decide +kernel
theorem dX4_outcomesIn_8 : decode cX4_outcomesIn 8 = .ok (.ifCond .ne 5, 3) := by decide +kernel
theorem dX4_outcomesIn_11 : decode cX4_outcomesIn 11 = .ok (.iconst 0, 1) := by decide +kernel
theorem dX4_outcomesIn_12 : decode cX4_outcomesIn 12 = .ok (.ireturn, 1) := by decide +kernel
theorem dX4_outcomesIn_13 : decode cX4_outcomesIn 13 = .ok (.iload_n 1, 1) := by decide +kernel
theorem dX4_outcomesIn_14 : decode cX4_outcomesIn 14 = .ok (.iconst (-1), 1) := by decide +kernel
theorem dX4_outcomesIn_15 : decode cX4_outcomesIn 15 = .ok (.if_icmp .ne 12, 3) := by decide +kernel
theorem dX4_outcomesIn_18 : decode cX4_outcomesIn 18 = .ok (.aload_n 0, 1) := by decide +kernel
theorem dX4_outcomesIn_19 : decode cX4_outcomesIn 19 = .ok (.getfield 49, 3) := by decide +kernel
theorem dX4_outcomesIn_22 : decode cX4_outcomesIn 22 = .ok (.iload_n 2, 1) := by decide +kernel
theorem dX4_outcomesIn_23 : decode cX4_outcomesIn 23 = .ok (.iaload, 1) := by decide +kernel
theorem dX4_outcomesIn_24 : decode cX4_outcomesIn 24 = .ok (.goto 12, 3) := by decide +kernel
theorem dX4_outcomesIn_27 : decode cX4_outcomesIn 27 = .ok (.aload_n 0, 1) := by decide +kernel
theorem dX4_outcomesIn_28 : decode cX4_outcomesIn 28 = .ok (.getfield 12, 3) := by decide +kernel
theorem dX4_outcomesIn_31 : decode cX4_outcomesIn 31 = .ok (.iload_n 1, 1) := by decide +kernel
theorem dX4_outcomesIn_32 : decode cX4_outcomesIn 32 = .ok (.iload_n 2, 1) := by decide +kernel
theorem dX4_outcomesIn_33 : decode cX4_outcomesIn 33 = .ok (.invokevirtual 145, 3) := by decide +kernel
theorem dX4_outcomesIn_36 : decode cX4_outcomesIn 36 = .ok (.ireturn, 1) := by decide +kernel
theorem dX4_cardsWith_0 : decode cX4_cardsWith 0 = .ok (.iconst 0, 1) := by decide +kernel
theorem dX4_cardsWith_1 : decode cX4_cardsWith 1 = .ok (.istore 5, 2) := by decide +kernel
theorem dX4_cardsWith_3 : decode cX4_cardsWith 3 = .ok (.iconst 0, 1) := by decide +kernel
theorem dX4_cardsWith_4 : decode cX4_cardsWith 4 = .ok (.istore 6, 2) := by decide +kernel
theorem dX4_cardsWith_6 : decode cX4_cardsWith 6 = .ok (.iload 6, 2) := by decide +kernel
theorem dX4_cardsWith_8 : decode cX4_cardsWith 8 = .ok (.aload_n 0, 1) := by decide +kernel
theorem dX4_cardsWith_9 : decode cX4_cardsWith 9 = .ok (.getfield 12, 3) := by decide +kernel
theorem dX4_cardsWith_12 : decode cX4_cardsWith 12 = .ok (.getfield 62, 3) := by decide +kernel
theorem dX4_cardsWith_15 : decode cX4_cardsWith 15 = .ok (.if_icmp .ge 73, 3) := by decide +kernel
theorem dX4_cardsWith_18 : decode cX4_cardsWith 18 = .ok (.iload 6, 2) := by decide +kernel
theorem dX4_cardsWith_20 : decode cX4_cardsWith 20 = .ok (.aload_n 0, 1) := by decide +kernel
theorem dX4_cardsWith_21 : decode cX4_cardsWith 21 = .ok (.getfield 12, 3) := by decide +kernel
theorem dX4_cardsWith_24 : decode cX4_cardsWith 24 = .ok (.iload_n 3, 1) := by decide +kernel
theorem dX4_cardsWith_25 : decode cX4_cardsWith 25 = .ok (.invokevirtual 148, 3) := by decide +kernel
theorem dX4_cardsWith_28 : decode cX4_cardsWith 28 = .ok (.if_icmp .ge 60, 3) := by decide +kernel
theorem dX4_cardsWith_31 : decode cX4_cardsWith 31 = .ok (.iload 4, 2) := by decide +kernel
theorem dX4_cardsWith_33 : decode cX4_cardsWith 33 = .ok (.iconst (-1), 1) := by decide +kernel
theorem dX4_cardsWith_34 : decode cX4_cardsWith 34 = .ok (.if_icmp .eq 18, 3) := by decide +kernel
theorem dX4_cardsWith_37 : decode cX4_cardsWith 37 = .ok (.aload_n 0, 1) := by decide +kernel
theorem dX4_cardsWith_38 : decode cX4_cardsWith 38 = .ok (.getfield 12, 3) := by decide +kernel
theorem dX4_cardsWith_41 : decode cX4_cardsWith 41 = .ok (.getfield 89, 3) := by decide +kernel
theorem dX4_cardsWith_44 : decode cX4_cardsWith 44 = .ok (.iload 6, 2) := by decide +kernel
theorem dX4_cardsWith_46 : decode cX4_cardsWith 46 = .ok (.iaload, 1) := by decide +kernel
theorem dX4_cardsWith_47 : decode cX4_cardsWith 47 = .ok (.iload 4, 2) := by decide +kernel
theorem dX4_cardsWith_49 : decode cX4_cardsWith 49 = .ok (.if_icmp .ne 7, 3) := by decide +kernel
theorem dX4_cardsWith_52 : decode cX4_cardsWith 52 = .ok (.iconst 1, 1) := by decide +kernel
theorem dX4_cardsWith_53 : decode cX4_cardsWith 53 = .ok (.goto 4, 3) := by decide +kernel
theorem dX4_cardsWith_56 : decode cX4_cardsWith 56 = .ok (.iconst 0, 1) := by decide +kernel
theorem dX4_cardsWith_57 : decode cX4_cardsWith 57 = .ok (.istore 7, 2) := by decide +kernel
theorem dX4_cardsWith_59 : decode cX4_cardsWith 59 = .ok (.iload 7, 2) := by decide +kernel
theorem dX4_cardsWith_61 : decode cX4_cardsWith 61 = .ok (.ifCond .eq 21, 3) := by decide +kernel
theorem dX4_cardsWith_64 : decode cX4_cardsWith 64 = .ok (.aload_n 0, 1) := by decide +kernel
theorem dX4_cardsWith_65 : decode cX4_cardsWith 65 = .ok (.iload_n 3, 1) := by decide +kernel
theorem dX4_cardsWith_66 : decode cX4_cardsWith 66 = .ok (.iload 6, 2) := by decide +kernel
theorem dX4_cardsWith_68 : decode cX4_cardsWith 68 = .ok (.invokevirtual 151, 3) := by decide +kernel
theorem dX4_cardsWith_71 : decode cX4_cardsWith 71 = .ok (.iload_n 1, 1) := by decide +kernel
theorem dX4_cardsWith_72 : decode cX4_cardsWith 72 = .ok (.invokestatic 152, 3) := by decide +kernel
theorem dX4_cardsWith_75 : decode cX4_cardsWith 75 = .ok (.iload_n 2, 1) := by decide +kernel
theorem dX4_cardsWith_76 : decode cX4_cardsWith 76 = .ok (.if_icmp .ne 6, 3) := by decide +kernel
theorem dX4_cardsWith_79 : decode cX4_cardsWith 79 = .ok (.iinc 5 1, 3) := by decide +kernel
theorem dX4_cardsWith_82 : decode cX4_cardsWith 82 = .ok (.iinc 6 1, 3) := by decide +kernel
theorem dX4_cardsWith_85 : decode cX4_cardsWith 85 = .ok (.goto (-79), 3) := by decide +kernel
theorem dX4_cardsWith_88 : decode cX4_cardsWith 88 = .ok (.iload 5, 2) := by decide +kernel
theorem dX4_cardsWith_90 : decode cX4_cardsWith 90 = .ok (.ireturn, 1) := by decide +kernel
theorem dX4_cardsChanging_0 : decode cX4_cardsChanging 0 = .ok (.iconst 0, 1) := by decide +kernel
theorem dX4_cardsChanging_1 : decode cX4_cardsChanging 1 = .ok (.istore_n 1, 1) := by decide +kernel
theorem dX4_cardsChanging_2 : decode cX4_cardsChanging 2 = .ok (.iconst 0, 1) := by decide +kernel
theorem dX4_cardsChanging_3 : decode cX4_cardsChanging 3 = .ok (.istore_n 2, 1) := by decide +kernel
theorem dX4_cardsChanging_4 : decode cX4_cardsChanging 4 = .ok (.iload_n 2, 1) := by decide +kernel
theorem dX4_cardsChanging_5 : decode cX4_cardsChanging 5 = .ok (.aload_n 0, 1) := by decide +kernel
theorem dX4_cardsChanging_6 : decode cX4_cardsChanging 6 = .ok (.getfield 12, 3) := by decide +kernel
theorem dX4_cardsChanging_9 : decode cX4_cardsChanging 9 = .ok (.getfield 62, 3) := by decide +kernel
theorem dX4_cardsChanging_12 : decode cX4_cardsChanging 12 = .ok (.if_icmp .ge 21, 3) := by decide +kernel
theorem dX4_cardsChanging_15 : decode cX4_cardsChanging 15 = .ok (.aload_n 0, 1) := by decide +kernel
theorem dX4_cardsChanging_16 : decode cX4_cardsChanging 16 = .ok (.getfield 55, 3) := by decide +kernel
theorem dX4_cardsChanging_19 : decode cX4_cardsChanging 19 = .ok (.iload_n 2, 1) := by decide +kernel
theorem dX4_cardsChanging_20 : decode cX4_cardsChanging 20 = .ok (.baload, 1) := by decide +kernel
theorem dX4_cardsChanging_21 : decode cX4_cardsChanging 21 = .ok (.ifCond .eq 6, 3) := by decide +kernel
theorem dX4_cardsChanging_24 : decode cX4_cardsChanging 24 = .ok (.iinc 1 1, 3) := by decide +kernel
theorem dX4_cardsChanging_27 : decode cX4_cardsChanging 27 = .ok (.iinc 2 1, 3) := by decide +kernel
theorem dX4_cardsChanging_30 : decode cX4_cardsChanging 30 = .ok (.goto (-26), 3) := by decide +kernel
theorem dX4_cardsChanging_33 : decode cX4_cardsChanging 33 = .ok (.iload_n 1, 1) := by decide +kernel
theorem dX4_cardsChanging_34 : decode cX4_cardsChanging 34 = .ok (.ireturn, 1) := by decide +kernel
theorem dX4_unseenChanging_0 : decode cX4_unseenChanging 0 = .ok (.iconst 0, 1) := by decide +kernel
theorem dX4_unseenChanging_1 : decode cX4_unseenChanging 1 = .ok (.istore_n 1, 1) := by decide +kernel
theorem dX4_unseenChanging_2 : decode cX4_unseenChanging 2 = .ok (.iconst 0, 1) := by decide +kernel
theorem dX4_unseenChanging_3 : decode cX4_unseenChanging 3 = .ok (.istore_n 2, 1) := by decide +kernel
theorem dX4_unseenChanging_4 : decode cX4_unseenChanging 4 = .ok (.iload_n 2, 1) := by decide +kernel
theorem dX4_unseenChanging_5 : decode cX4_unseenChanging 5 = .ok (.aload_n 0, 1) := by decide +kernel
theorem dX4_unseenChanging_6 : decode cX4_unseenChanging 6 = .ok (.getfield 12, 3) := by decide +kernel
theorem dX4_unseenChanging_9 : decode cX4_unseenChanging 9 = .ok (.getfield 62, 3) := by decide +kernel
theorem dX4_unseenChanging_12 : decode cX4_unseenChanging 12 = .ok (.if_icmp .ge 34, 3) := by decide +kernel
theorem dX4_unseenChanging_15 : decode cX4_unseenChanging 15 = .ok (.aload_n 0, 1) := by decide +kernel
theorem dX4_unseenChanging_16 : decode cX4_unseenChanging 16 = .ok (.getfield 55, 3) := by decide +kernel
theorem dX4_unseenChanging_19 : decode cX4_unseenChanging 19 = .ok (.iload_n 2, 1) := by decide +kernel
theorem dX4_unseenChanging_20 : decode cX4_unseenChanging 20 = .ok (.baload, 1) := by decide +kernel
theorem dX4_unseenChanging_21 : decode cX4_unseenChanging 21 = .ok (.ifCond .eq 19, 3) := by decide +kernel
theorem dX4_unseenChanging_24 : decode cX4_unseenChanging 24 = .ok (.aload_n 0, 1) := by decide +kernel
theorem dX4_unseenChanging_25 : decode cX4_unseenChanging 25 = .ok (.getfield 12, 3) := by decide +kernel
theorem dX4_unseenChanging_28 : decode cX4_unseenChanging 28 = .ok (.getfield 116, 3) := by decide +kernel
theorem dX4_unseenChanging_31 : decode cX4_unseenChanging 31 = .ok (.iload_n 2, 1) := by decide +kernel
theorem dX4_unseenChanging_32 : decode cX4_unseenChanging 32 = .ok (.iaload, 1) := by decide +kernel
theorem dX4_unseenChanging_33 : decode cX4_unseenChanging 33 = .ok (.iconst 2, 1) := by decide +kernel
theorem dX4_unseenChanging_34 : decode cX4_unseenChanging 34 = .ok (.if_icmp .eq 6, 3) := by decide +kernel
theorem dX4_unseenChanging_37 : decode cX4_unseenChanging 37 = .ok (.iinc 1 1, 3) := by decide +kernel
theorem dX4_unseenChanging_40 : decode cX4_unseenChanging 40 = .ok (.iinc 2 1, 3) := by decide +kernel
theorem dX4_unseenChanging_43 : decode cX4_unseenChanging 43 = .ok (.goto (-39), 3) := by decide +kernel
theorem dX4_unseenChanging_46 : decode cX4_unseenChanging 46 = .ok (.iload_n 1, 1) := by decide +kernel
theorem dX4_unseenChanging_47 : decode cX4_unseenChanging 47 = .ok (.ireturn, 1) := by decide +kernel
theorem dX4_inPool_0 : decode cX4_inPool 0 = .ok (.iload_n 1, 1) := by decide +kernel
theorem dX4_inPool_1 : decode cX4_inPool 1 = .ok (.ifCond .lt 26, 3) := by decide +kernel
theorem dX4_inPool_4 : decode cX4_inPool 4 = .ok (.iload_n 1, 1) := by decide +kernel
theorem dX4_inPool_5 : decode cX4_inPool 5 = .ok (.aload_n 0, 1) := by decide +kernel
theorem dX4_inPool_6 : decode cX4_inPool 6 = .ok (.getfield 12, 3) := by decide +kernel
theorem dX4_inPool_9 : decode cX4_inPool 9 = .ok (.getfield 62, 3) := by decide +kernel
theorem dX4_inPool_12 : decode cX4_inPool 12 = .ok (.if_icmp .ge 15, 3) := by decide +kernel
theorem dX4_inPool_15 : decode cX4_inPool 15 = .ok (.aload_n 0, 1) := by decide +kernel
theorem dX4_inPool_16 : decode cX4_inPool 16 = .ok (.getfield 12, 3) := by decide +kernel
theorem dX4_inPool_19 : decode cX4_inPool 19 = .ok (.getfield 116, 3) := by decide +kernel
theorem dX4_inPool_22 : decode cX4_inPool 22 = .ok (.iload_n 1, 1) := by decide +kernel
theorem dX4_inPool_23 : decode cX4_inPool 23 = .ok (.iaload, 1) := by decide +kernel
theorem dX4_inPool_24 : decode cX4_inPool 24 = .ok (.ifCond .eq 5, 3) := by decide +kernel
theorem dX4_inPool_27 : decode cX4_inPool 27 = .ok (.iconst 0, 1) := by decide +kernel
theorem dX4_inPool_28 : decode cX4_inPool 28 = .ok (.ireturn, 1) := by decide +kernel
theorem dX4_inPool_29 : decode cX4_inPool 29 = .ok (.aload_n 0, 1) := by decide +kernel
theorem dX4_inPool_30 : decode cX4_inPool 30 = .ok (.getfield 52, 3) := by decide +kernel
theorem dX4_inPool_33 : decode cX4_inPool 33 = .ok (.iload_n 1, 1) := by decide +kernel
theorem dX4_inPool_34 : decode cX4_inPool 34 = .ok (.iaload, 1) := by decide +kernel
theorem dX4_inPool_35 : decode cX4_inPool 35 = .ok (.ifCond .ne 12, 3) := by decide +kernel
theorem dX4_inPool_38 : decode cX4_inPool 38 = .ok (.aload_n 0, 1) := by decide +kernel
theorem dX4_inPool_39 : decode cX4_inPool 39 = .ok (.getfield 55, 3) := by decide +kernel
theorem dX4_inPool_42 : decode cX4_inPool 42 = .ok (.iload_n 1, 1) := by decide +kernel
theorem dX4_inPool_43 : decode cX4_inPool 43 = .ok (.baload, 1) := by decide +kernel
theorem dX4_inPool_44 : decode cX4_inPool 44 = .ok (.ifCond .eq 7, 3) := by decide +kernel
theorem dX4_inPool_47 : decode cX4_inPool 47 = .ok (.iconst 1, 1) := by decide +kernel
theorem dX4_inPool_48 : decode cX4_inPool 48 = .ok (.goto 4, 3) := by decide +kernel
theorem dX4_inPool_51 : decode cX4_inPool 51 = .ok (.iconst 0, 1) := by decide +kernel
theorem dX4_inPool_52 : decode cX4_inPool 52 = .ok (.ireturn, 1) := by decide +kernel
theorem dX4_placeInPool_0 : decode cX4_placeInPool 0 = .ok (.iconst 0, 1) := by decide +kernel
theorem dX4_placeInPool_1 : decode cX4_placeInPool 1 = .ok (.istore_n 2, 1) := by decide +kernel
theorem dX4_placeInPool_2 : decode cX4_placeInPool 2 = .ok (.iconst 0, 1) := by decide +kernel
theorem dX4_placeInPool_3 : decode cX4_placeInPool 3 = .ok (.istore_n 3, 1) := by decide +kernel
theorem dX4_placeInPool_4 : decode cX4_placeInPool 4 = .ok (.iload_n 3, 1) := by decide +kernel
theorem dX4_placeInPool_5 : decode cX4_placeInPool 5 = .ok (.iload_n 1, 1) := by decide +kernel
theorem dX4_placeInPool_6 : decode cX4_placeInPool 6 = .ok (.if_icmp .ge 31, 3) := by decide +kernel
theorem dX4_placeInPool_9 : decode cX4_placeInPool 9 = .ok (.iload_n 3, 1) := by decide +kernel
theorem dX4_placeInPool_10 : decode cX4_placeInPool 10 = .ok (.aload_n 0, 1) := by decide +kernel
theorem dX4_placeInPool_11 : decode cX4_placeInPool 11 = .ok (.getfield 12, 3) := by decide +kernel
theorem dX4_placeInPool_14 : decode cX4_placeInPool 14 = .ok (.getfield 62, 3) := by decide +kernel
theorem dX4_placeInPool_17 : decode cX4_placeInPool 17 = .ok (.if_icmp .ge 20, 3) := by decide +kernel
theorem dX4_placeInPool_20 : decode cX4_placeInPool 20 = .ok (.aload_n 0, 1) := by decide +kernel
theorem dX4_placeInPool_21 : decode cX4_placeInPool 21 = .ok (.iload_n 3, 1) := by decide +kernel
theorem dX4_placeInPool_22 : decode cX4_placeInPool 22 = .ok (.invokevirtual 155, 3) := by decide +kernel
theorem dX4_placeInPool_25 : decode cX4_placeInPool 25 = .ok (.ifCond .eq 6, 3) := by decide +kernel
theorem dX4_placeInPool_28 : decode cX4_placeInPool 28 = .ok (.iinc 2 1, 3) := by decide +kernel
theorem dX4_placeInPool_31 : decode cX4_placeInPool 31 = .ok (.iinc 3 1, 3) := by decide +kernel
theorem dX4_placeInPool_34 : decode cX4_placeInPool 34 = .ok (.goto (-30), 3) := by decide +kernel
theorem dX4_placeInPool_37 : decode cX4_placeInPool 37 = .ok (.iload_n 2, 1) := by decide +kernel
theorem dX4_placeInPool_38 : decode cX4_placeInPool 38 = .ok (.ireturn, 1) := by decide +kernel
theorem dX4_poolSize_0 : decode cX4_poolSize 0 = .ok (.aload_n 0, 1) := by decide +kernel
theorem dX4_poolSize_1 : decode cX4_poolSize 1 = .ok (.aload_n 0, 1) := by decide +kernel
theorem dX4_poolSize_2 : decode cX4_poolSize 2 = .ok (.getfield 12, 3) := by decide +kernel
theorem dX4_poolSize_5 : decode cX4_poolSize 5 = .ok (.getfield 62, 3) := by decide +kernel
theorem dX4_poolSize_8 : decode cX4_poolSize 8 = .ok (.invokevirtual 158, 3) := by decide +kernel
theorem dX4_poolSize_11 : decode cX4_poolSize 11 = .ok (.ireturn, 1) := by decide +kernel
theorem dX4_poolCard_0 : decode cX4_poolCard 0 = .ok (.iconst 0, 1) := by decide +kernel
theorem dX4_poolCard_1 : decode cX4_poolCard 1 = .ok (.istore_n 2, 1) := by decide +kernel
theorem dX4_poolCard_2 : decode cX4_poolCard 2 = .ok (.iconst 0, 1) := by decide +kernel
theorem dX4_poolCard_3 : decode cX4_poolCard 3 = .ok (.istore_n 3, 1) := by decide +kernel
theorem dX4_poolCard_4 : decode cX4_poolCard 4 = .ok (.iload_n 3, 1) := by decide +kernel
theorem dX4_poolCard_5 : decode cX4_poolCard 5 = .ok (.aload_n 0, 1) := by decide +kernel
theorem dX4_poolCard_6 : decode cX4_poolCard 6 = .ok (.getfield 12, 3) := by decide +kernel
theorem dX4_poolCard_9 : decode cX4_poolCard 9 = .ok (.getfield 62, 3) := by decide +kernel
theorem dX4_poolCard_12 : decode cX4_poolCard 12 = .ok (.if_icmp .ge 30, 3) := by decide +kernel
theorem dX4_poolCard_15 : decode cX4_poolCard 15 = .ok (.aload_n 0, 1) := by decide +kernel
theorem dX4_poolCard_16 : decode cX4_poolCard 16 = .ok (.iload_n 3, 1) := by decide +kernel
theorem dX4_poolCard_17 : decode cX4_poolCard 17 = .ok (.invokevirtual 155, 3) := by decide +kernel
theorem dX4_poolCard_20 : decode cX4_poolCard 20 = .ok (.ifCond .ne 6, 3) := by decide +kernel
theorem dX4_poolCard_23 : decode cX4_poolCard 23 = .ok (.goto 13, 3) := by decide +kernel
theorem dX4_poolCard_26 : decode cX4_poolCard 26 = .ok (.iload_n 2, 1) := by decide +kernel
theorem dX4_poolCard_27 : decode cX4_poolCard 27 = .ok (.iload_n 1, 1) := by decide +kernel
theorem dX4_poolCard_28 : decode cX4_poolCard 28 = .ok (.if_icmp .ne 5, 3) := by decide +kernel
theorem dX4_poolCard_31 : decode cX4_poolCard 31 = .ok (.iload_n 3, 1) := by decide +kernel
theorem dX4_poolCard_32 : decode cX4_poolCard 32 = .ok (.ireturn, 1) := by decide +kernel
theorem dX4_poolCard_33 : decode cX4_poolCard 33 = .ok (.iinc 2 1, 3) := by decide +kernel
theorem dX4_poolCard_36 : decode cX4_poolCard 36 = .ok (.iinc 3 1, 3) := by decide +kernel
theorem dX4_poolCard_39 : decode cX4_poolCard 39 = .ok (.goto (-35), 3) := by decide +kernel
theorem dX4_poolCard_42 : decode cX4_poolCard 42 = .ok (.bipush (-9), 2) := by decide +kernel
theorem dX4_poolCard_44 : decode cX4_poolCard 44 = .ok (.ireturn, 1) := by decide +kernel
theorem dX4_leadingChoice_0 : decode cX4_leadingChoice 0 = .ok (.iconst 0, 1) := by decide +kernel
theorem dX4_leadingChoice_1 : decode cX4_leadingChoice 1 = .ok (.istore_n 2, 1) := by decide +kernel
theorem dX4_leadingChoice_2 : decode cX4_leadingChoice 2 = .ok (.iconst (-1), 1) := by decide +kernel
theorem dX4_leadingChoice_3 : decode cX4_leadingChoice 3 = .ok (.istore_n 3, 1) := by decide +kernel
theorem dX4_leadingChoice_4 : decode cX4_leadingChoice 4 = .ok (.iconst 0, 1) := by decide +kernel
theorem dX4_leadingChoice_5 : decode cX4_leadingChoice 5 = .ok (.istore 4, 2) := by decide +kernel
theorem dX4_leadingChoice_7 : decode cX4_leadingChoice 7 = .ok (.iload 4, 2) := by decide +kernel
theorem dX4_leadingChoice_9 : decode cX4_leadingChoice 9 = .ok (.iconst 3, 1) := by decide +kernel
theorem dX4_leadingChoice_10 : decode cX4_leadingChoice 10 = .ok (.if_icmp .ge 32, 3) := by decide +kernel
theorem dX4_leadingChoice_13 : decode cX4_leadingChoice 13 = .ok (.aload_n 0, 1) := by decide +kernel
theorem dX4_leadingChoice_14 : decode cX4_leadingChoice 14 = .ok (.iload_n 1, 1) := by decide +kernel
theorem dX4_leadingChoice_15 : decode cX4_leadingChoice 15 = .ok (.iload 4, 2) := by decide +kernel
theorem dX4_leadingChoice_17 : decode cX4_leadingChoice 17 = .ok (.iconst (-1), 1) := by decide +kernel
theorem dX4_leadingChoice_18 : decode cX4_leadingChoice 18 = .ok (.iconst (-1), 1) := by decide +kernel
theorem dX4_leadingChoice_19 : decode cX4_leadingChoice 19 = .ok (.invokevirtual 161, 3) := by decide +kernel
theorem dX4_leadingChoice_22 : decode cX4_leadingChoice 22 = .ok (.istore 5, 2) := by decide +kernel
theorem dX4_leadingChoice_24 : decode cX4_leadingChoice 24 = .ok (.iload 5, 2) := by decide +kernel
theorem dX4_leadingChoice_26 : decode cX4_leadingChoice 26 = .ok (.iload_n 3, 1) := by decide +kernel
theorem dX4_leadingChoice_27 : decode cX4_leadingChoice 27 = .ok (.if_icmp .le 9, 3) := by decide +kernel
theorem dX4_leadingChoice_30 : decode cX4_leadingChoice 30 = .ok (.iload 5, 2) := by decide +kernel
theorem dX4_leadingChoice_32 : decode cX4_leadingChoice 32 = .ok (.istore_n 3, 1) := by decide +kernel
theorem dX4_leadingChoice_33 : decode cX4_leadingChoice 33 = .ok (.iload 4, 2) := by decide +kernel
theorem dX4_leadingChoice_35 : decode cX4_leadingChoice 35 = .ok (.istore_n 2, 1) := by decide +kernel
theorem dX4_leadingChoice_36 : decode cX4_leadingChoice 36 = .ok (.iinc 4 1, 3) := by decide +kernel
theorem dX4_leadingChoice_39 : decode cX4_leadingChoice 39 = .ok (.goto (-32), 3) := by decide +kernel
theorem dX4_leadingChoice_42 : decode cX4_leadingChoice 42 = .ok (.iload_n 2, 1) := by decide +kernel
theorem dX4_leadingChoice_43 : decode cX4_leadingChoice 43 = .ok (.ireturn, 1) := by decide +kernel
theorem dX4_leadOf_0 : decode cX4_leadOf 0 = .ok (.iconst 0, 1) := by decide +kernel
theorem dX4_leadOf_1 : decode cX4_leadOf 1 = .ok (.istore_n 3, 1) := by decide +kernel
theorem dX4_leadOf_2 : decode cX4_leadOf 2 = .ok (.iconst 0, 1) := by decide +kernel
theorem dX4_leadOf_3 : decode cX4_leadOf 3 = .ok (.istore 4, 2) := by decide +kernel
theorem dX4_leadOf_5 : decode cX4_leadOf 5 = .ok (.iload 4, 2) := by decide +kernel
theorem dX4_leadOf_7 : decode cX4_leadOf 7 = .ok (.iconst 3, 1) := by decide +kernel
theorem dX4_leadOf_8 : decode cX4_leadOf 8 = .ok (.if_icmp .ge 29, 3) := by decide +kernel
theorem dX4_leadOf_11 : decode cX4_leadOf 11 = .ok (.iload 4, 2) := by decide +kernel
theorem dX4_leadOf_13 : decode cX4_leadOf 13 = .ok (.iload_n 2, 1) := by decide +kernel
theorem dX4_leadOf_14 : decode cX4_leadOf 14 = .ok (.if_icmp .eq 17, 3) := by decide +kernel
theorem dX4_leadOf_17 : decode cX4_leadOf 17 = .ok (.iload_n 3, 1) := by decide +kernel
theorem dX4_leadOf_18 : decode cX4_leadOf 18 = .ok (.aload_n 0, 1) := by decide +kernel
theorem dX4_leadOf_19 : decode cX4_leadOf 19 = .ok (.iload_n 1, 1) := by decide +kernel
theorem dX4_leadOf_20 : decode cX4_leadOf 20 = .ok (.iload 4, 2) := by decide +kernel
theorem dX4_leadOf_22 : decode cX4_leadOf 22 = .ok (.iconst (-1), 1) := by decide +kernel
theorem dX4_leadOf_23 : decode cX4_leadOf 23 = .ok (.iconst (-1), 1) := by decide +kernel
theorem dX4_leadOf_24 : decode cX4_leadOf 24 = .ok (.invokevirtual 161, 3) := by decide +kernel
theorem dX4_leadOf_27 : decode cX4_leadOf 27 = .ok (.invokestatic 119, 3) := by decide +kernel
theorem dX4_leadOf_30 : decode cX4_leadOf 30 = .ok (.istore_n 3, 1) := by decide +kernel
theorem dX4_leadOf_31 : decode cX4_leadOf 31 = .ok (.iinc 4 1, 3) := by decide +kernel
theorem dX4_leadOf_34 : decode cX4_leadOf 34 = .ok (.goto (-29), 3) := by decide +kernel
theorem dX4_leadOf_37 : decode cX4_leadOf 37 = .ok (.aload_n 0, 1) := by decide +kernel
theorem dX4_leadOf_38 : decode cX4_leadOf 38 = .ok (.iload_n 1, 1) := by decide +kernel
theorem dX4_leadOf_39 : decode cX4_leadOf 39 = .ok (.iload_n 2, 1) := by decide +kernel
theorem dX4_leadOf_40 : decode cX4_leadOf 40 = .ok (.iconst (-1), 1) := by decide +kernel
theorem dX4_leadOf_41 : decode cX4_leadOf 41 = .ok (.iconst (-1), 1) := by decide +kernel
theorem dX4_leadOf_42 : decode cX4_leadOf 42 = .ok (.invokevirtual 161, 3) := by decide +kernel
theorem dX4_leadOf_45 : decode cX4_leadOf 45 = .ok (.iload_n 3, 1) := by decide +kernel
theorem dX4_leadOf_46 : decode cX4_leadOf 46 = .ok (.isub, 1) := by decide +kernel
theorem dX4_leadOf_47 : decode cX4_leadOf 47 = .ok (.ireturn, 1) := by decide +kernel
theorem dX4_errorOf_0 : decode cX4_errorOf 0 = .ok (.aload_n 0, 1) := by decide +kernel
theorem dX4_errorOf_1 : decode cX4_errorOf 1 = .ok (.getfield 12, 3) := by decide +kernel
theorem dX4_errorOf_4 : decode cX4_errorOf 4 = .ok (.iload_n 1, 1) := by decide +kernel
theorem dX4_errorOf_5 : decode cX4_errorOf 5 = .ok (.invokevirtual 142, 3) := by decide +kernel
theorem dX4_errorOf_8 : decode cX4_errorOf 8 = .ok (.ifCond .ne 5, 3) := by decide +kernel
theorem dX4_errorOf_11 : decode cX4_errorOf 11 = .ok (.iconst 0, 1) := by decide +kernel
theorem dX4_errorOf_12 : decode cX4_errorOf 12 = .ok (.ireturn, 1) := by decide +kernel
theorem dX4_errorOf_13 : decode cX4_errorOf 13 = .ok (.iconst 0, 1) := by decide +kernel
theorem dX4_errorOf_14 : decode cX4_errorOf 14 = .ok (.istore_n 3, 1) := by decide +kernel
theorem dX4_errorOf_15 : decode cX4_errorOf 15 = .ok (.iconst 0, 1) := by decide +kernel
theorem dX4_errorOf_16 : decode cX4_errorOf 16 = .ok (.istore 4, 2) := by decide +kernel
theorem dX4_errorOf_18 : decode cX4_errorOf 18 = .ok (.iload 4, 2) := by decide +kernel
theorem dX4_errorOf_20 : decode cX4_errorOf 20 = .ok (.bipush 12, 2) := by decide +kernel
theorem dX4_errorOf_22 : decode cX4_errorOf 22 = .ok (.if_icmp .ge 100, 3) := by decide +kernel
theorem dX4_errorOf_25 : decode cX4_errorOf 25 = .ok (.iload_n 1, 1) := by decide +kernel
theorem dX4_errorOf_26 : decode cX4_errorOf 26 = .ok (.bipush 12, 2) := by decide +kernel
theorem dX4_errorOf_28 : decode cX4_errorOf 28 = .ok (.imul, 1) := by decide +kernel
theorem dX4_errorOf_29 : decode cX4_errorOf 29 = .ok (.iload 4, 2) := by decide +kernel
theorem dX4_errorOf_31 : decode cX4_errorOf 31 = .ok (.iadd, 1) := by decide +kernel
theorem dX4_errorOf_32 : decode cX4_errorOf 32 = .ok (.istore 5, 2) := by decide +kernel
theorem dX4_errorOf_34 : decode cX4_errorOf 34 = .ok (.aload_n 0, 1) := by decide +kernel
theorem dX4_errorOf_35 : decode cX4_errorOf 35 = .ok (.getfield 22, 3) := by decide +kernel
theorem dX4_errorOf_38 : decode cX4_errorOf 38 = .ok (.iload 5, 2) := by decide +kernel
theorem dX4_errorOf_40 : decode cX4_errorOf 40 = .ok (.iaload, 1) := by decide +kernel
theorem dX4_errorOf_41 : decode cX4_errorOf 41 = .ok (.aload_n 0, 1) := by decide +kernel
theorem dX4_errorOf_42 : decode cX4_errorOf 42 = .ok (.getfield 25, 3) := by decide +kernel
theorem dX4_errorOf_45 : decode cX4_errorOf 45 = .ok (.iload 5, 2) := by decide +kernel
theorem dX4_errorOf_47 : decode cX4_errorOf 47 = .ok (.iaload, 1) := by decide +kernel
theorem dX4_errorOf_48 : decode cX4_errorOf 48 = .ok (.isub, 1) := by decide +kernel
theorem dX4_errorOf_49 : decode cX4_errorOf 49 = .ok (.invokestatic 165, 3) := by decide +kernel
theorem dX4_errorOf_52 : decode cX4_errorOf 52 = .ok (.istore 6, 2) := by decide +kernel
theorem dX4_errorOf_54 : decode cX4_errorOf 54 = .ok (.iload_n 2, 1) := by decide +kernel
theorem dX4_errorOf_55 : decode cX4_errorOf 55 = .ok (.ifCond .ne 19, 3) := by decide +kernel
theorem dX4_errorOf_58 : decode cX4_errorOf 58 = .ok (.iload_n 3, 1) := by decide +kernel
theorem dX4_errorOf_59 : decode cX4_errorOf 59 = .ok (.iload 6, 2) := by decide +kernel
theorem dX4_errorOf_61 : decode cX4_errorOf 61 = .ok (.ifCond .ne 7, 3) := by decide +kernel
theorem dX4_errorOf_64 : decode cX4_errorOf 64 = .ok (.iconst 0, 1) := by decide +kernel
theorem dX4_errorOf_65 : decode cX4_errorOf 65 = .ok (.goto 4, 3) := by decide +kernel
theorem dX4_errorOf_68 : decode cX4_errorOf 68 = .ok (.iconst 1, 1) := by decide +kernel
theorem dX4_errorOf_69 : decode cX4_errorOf 69 = .ok (.iadd, 1) := by decide +kernel
theorem dX4_errorOf_70 : decode cX4_errorOf 70 = .ok (.istore_n 3, 1) := by decide +kernel
theorem dX4_errorOf_71 : decode cX4_errorOf 71 = .ok (.goto 45, 3) := by decide +kernel
theorem dX4_errorOf_74 : decode cX4_errorOf 74 = .ok (.iload_n 2, 1) := by decide +kernel
theorem dX4_errorOf_75 : decode cX4_errorOf 75 = .ok (.iconst 1, 1) := by decide +kernel
theorem dX4_errorOf_76 : decode cX4_errorOf 76 = .ok (.if_icmp .ne 11, 3) := by decide +kernel
theorem dX4_errorOf_79 : decode cX4_errorOf 79 = .ok (.iload_n 3, 1) := by decide +kernel
theorem dX4_errorOf_80 : decode cX4_errorOf 80 = .ok (.iload 6, 2) := by decide +kernel
theorem dX4_errorOf_82 : decode cX4_errorOf 82 = .ok (.iadd, 1) := by decide +kernel
theorem dX4_errorOf_83 : decode cX4_errorOf 83 = .ok (.istore_n 3, 1) := by decide +kernel
theorem dX4_errorOf_84 : decode cX4_errorOf 84 = .ok (.goto 32, 3) := by decide +kernel
theorem dX4_errorOf_87 : decode cX4_errorOf 87 = .ok (.iload_n 3, 1) := by decide +kernel
theorem dX4_errorOf_88 : decode cX4_errorOf 88 = .ok (.aload_n 0, 1) := by decide +kernel
theorem dX4_errorOf_89 : decode cX4_errorOf 89 = .ok (.getfield 22, 3) := by decide +kernel
theorem dX4_errorOf_92 : decode cX4_errorOf 92 = .ok (.iload 5, 2) := by decide +kernel
theorem dX4_errorOf_94 : decode cX4_errorOf 94 = .ok (.iaload, 1) := by decide +kernel
theorem dX4_errorOf_95 : decode cX4_errorOf 95 = .ok (.aload_n 0, 1) := by decide +kernel
theorem dX4_errorOf_96 : decode cX4_errorOf 96 = .ok (.getfield 40, 3) := by decide +kernel
theorem dX4_errorOf_99 : decode cX4_errorOf 99 = .ok (.iload 5, 2) := by decide +kernel
theorem dX4_errorOf_101 : decode cX4_errorOf 101 = .ok (.iaload, 1) := by decide +kernel
theorem dX4_errorOf_102 : decode cX4_errorOf 102 = .ok (.isub, 1) := by decide +kernel
theorem dX4_errorOf_103 : decode cX4_errorOf 103 = .ok (.aload_n 0, 1) := by decide +kernel
theorem dX4_errorOf_104 : decode cX4_errorOf 104 = .ok (.getfield 25, 3) := by decide +kernel
theorem dX4_errorOf_107 : decode cX4_errorOf 107 = .ok (.iload 5, 2) := by decide +kernel
theorem dX4_errorOf_109 : decode cX4_errorOf 109 = .ok (.iaload, 1) := by decide +kernel
theorem dX4_errorOf_110 : decode cX4_errorOf 110 = .ok (.isub, 1) := by decide +kernel
theorem dX4_errorOf_111 : decode cX4_errorOf 111 = .ok (.invokestatic 165, 3) := by decide +kernel
theorem dX4_errorOf_114 : decode cX4_errorOf 114 = .ok (.iadd, 1) := by decide +kernel
theorem dX4_errorOf_115 : decode cX4_errorOf 115 = .ok (.istore_n 3, 1) := by decide +kernel
theorem dX4_errorOf_116 : decode cX4_errorOf 116 = .ok (.iinc 4 1, 3) := by decide +kernel
theorem dX4_errorOf_119 : decode cX4_errorOf 119 = .ok (.goto (-101), 3) := by decide +kernel
theorem dX4_errorOf_122 : decode cX4_errorOf 122 = .ok (.iload_n 3, 1) := by decide +kernel
theorem dX4_errorOf_123 : decode cX4_errorOf 123 = .ok (.ireturn, 1) := by decide +kernel
theorem dX4_otherWith_0 : decode cX4_otherWith 0 = .ok (.aload_n 0, 1) := by decide +kernel
theorem dX4_otherWith_1 : decode cX4_otherWith 1 = .ok (.getfield 49, 3) := by decide +kernel
theorem dX4_otherWith_4 : decode cX4_otherWith 4 = .ok (.iconst 0, 1) := by decide +kernel
theorem dX4_otherWith_5 : decode cX4_otherWith 5 = .ok (.aload_n 0, 1) := by decide +kernel
theorem dX4_otherWith_6 : decode cX4_otherWith 6 = .ok (.getfield 59, 3) := by decide +kernel
theorem dX4_otherWith_9 : decode cX4_otherWith 9 = .ok (.iconst 0, 1) := by decide +kernel
theorem dX4_otherWith_10 : decode cX4_otherWith 10 = .ok (.bipush 40, 2) := by decide +kernel
theorem dX4_otherWith_12 : decode cX4_otherWith 12 = .ok (.invokestatic 168, 3) := by decide +kernel
theorem dX4_otherWith_15 : decode cX4_otherWith 15 = .ok (.aload_n 0, 1) := by decide +kernel
theorem dX4_otherWith_16 : decode cX4_otherWith 16 = .ok (.iload_n 1, 1) := by decide +kernel
theorem dX4_otherWith_17 : decode cX4_otherWith 17 = .ok (.invokevirtual 83, 3) := by decide +kernel
theorem dX4_otherWith_20 : decode cX4_otherWith 20 = .ok (.iconst 0, 1) := by decide +kernel
theorem dX4_otherWith_21 : decode cX4_otherWith 21 = .ok (.istore_n 2, 1) := by decide +kernel
theorem dX4_otherWith_22 : decode cX4_otherWith 22 = .ok (.iconst 0, 1) := by decide +kernel
theorem dX4_otherWith_23 : decode cX4_otherWith 23 = .ok (.istore_n 3, 1) := by decide +kernel
theorem dX4_otherWith_24 : decode cX4_otherWith 24 = .ok (.iload_n 3, 1) := by decide +kernel
theorem dX4_otherWith_25 : decode cX4_otherWith 25 = .ok (.aload_n 0, 1) := by decide +kernel
theorem dX4_otherWith_26 : decode cX4_otherWith 26 = .ok (.getfield 12, 3) := by decide +kernel
theorem dX4_otherWith_29 : decode cX4_otherWith 29 = .ok (.getfield 62, 3) := by decide +kernel
theorem dX4_otherWith_32 : decode cX4_otherWith 32 = .ok (.if_icmp .ge 27, 3) := by decide +kernel
theorem dX4_otherWith_35 : decode cX4_otherWith 35 = .ok (.aload_n 0, 1) := by decide +kernel
theorem dX4_otherWith_36 : decode cX4_otherWith 36 = .ok (.getfield 49, 3) := by decide +kernel
theorem dX4_otherWith_39 : decode cX4_otherWith 39 = .ok (.iload_n 3, 1) := by decide +kernel
theorem dX4_otherWith_40 : decode cX4_otherWith 40 = .ok (.iaload, 1) := by decide +kernel
theorem dX4_otherWith_41 : decode cX4_otherWith 41 = .ok (.aload_n 0, 1) := by decide +kernel
theorem dX4_otherWith_42 : decode cX4_otherWith 42 = .ok (.getfield 59, 3) := by decide +kernel
theorem dX4_otherWith_45 : decode cX4_otherWith 45 = .ok (.iload_n 3, 1) := by decide +kernel
theorem dX4_otherWith_46 : decode cX4_otherWith 46 = .ok (.iaload, 1) := by decide +kernel
theorem dX4_otherWith_47 : decode cX4_otherWith 47 = .ok (.if_icmp .eq 6, 3) := by decide +kernel
theorem dX4_otherWith_50 : decode cX4_otherWith 50 = .ok (.iinc 2 1, 3) := by decide +kernel
theorem dX4_otherWith_53 : decode cX4_otherWith 53 = .ok (.iinc 3 1, 3) := by decide +kernel
theorem dX4_otherWith_56 : decode cX4_otherWith 56 = .ok (.goto (-32), 3) := by decide +kernel
theorem dX4_otherWith_59 : decode cX4_otherWith 59 = .ok (.iload_n 2, 1) := by decide +kernel
theorem dX4_otherWith_60 : decode cX4_otherWith 60 = .ok (.ireturn, 1) := by decide +kernel
theorem dX5_init_0 : decode cX5_init 0 = .ok (.aload_n 0, 1) := by decide +kernel
theorem dX5_init_1 : decode cX5_init 1 = .ok (.invokespecial 3, 3) := by decide +kernel
theorem dX5_init_4 : decode cX5_init 4 = .ok (.aload_n 0, 1) := by decide +kernel
theorem dX5_init_5 : decode cX5_init 5 = .ok (.iconst 2, 1) := by decide +kernel
theorem dX5_init_6 : decode cX5_init 6 = .ok (.anewarray 9, 3) := by decide +kernel
theorem dX5_init_9 : decode cX5_init 9 = .ok (.dup, 1) := by decide +kernel
theorem dX5_init_10 : decode cX5_init 10 = .ok (.iconst 0, 1) := by decide +kernel
theorem dX5_init_11 : decode cX5_init 11 = .ok (.new 9, 3) := by decide +kernel
theorem dX5_init_14 : decode cX5_init 14 = .ok (.dup, 1) := by decide +kernel
theorem dX5_init_15 : decode cX5_init 15 = .ok (.invokespecial 11, 3) := by decide +kernel
theorem dX5_init_18 : decode cX5_init 18 = .ok (.aastore, 1) := by decide +kernel
theorem dX5_init_19 : decode cX5_init 19 = .ok (.dup, 1) := by decide +kernel
theorem dX5_init_20 : decode cX5_init 20 = .ok (.iconst 1, 1) := by decide +kernel
theorem dX5_init_21 : decode cX5_init 21 = .ok (.new 9, 3) := by decide +kernel
theorem dX5_init_24 : decode cX5_init 24 = .ok (.dup, 1) := by decide +kernel
theorem dX5_init_25 : decode cX5_init 25 = .ok (.invokespecial 11, 3) := by decide +kernel
theorem dX5_init_28 : decode cX5_init 28 = .ok (.aastore, 1) := by decide +kernel
theorem dX5_init_29 : decode cX5_init 29 = .ok (.putfield 12, 3) := by decide +kernel
theorem dX5_init_32 : decode cX5_init 32 = .ok (.aload_n 0, 1) := by decide +kernel
theorem dX5_init_33 : decode cX5_init 33 = .ok (.iconst 2, 1) := by decide +kernel
theorem dX5_init_34 : decode cX5_init 34 = .ok (.newarray .boolean, 2) := by decide +kernel
theorem dX5_init_36 : decode cX5_init 36 = .ok (.putfield 18, 3) := by decide +kernel
theorem dX5_init_39 : decode cX5_init 39 = .ok (.return_, 1) := by decide +kernel
theorem dX5_copyFrom_0 : decode cX5_copyFrom 0 = .ok (.iconst 0, 1) := by decide +kernel
theorem dX5_copyFrom_1 : decode cX5_copyFrom 1 = .ok (.istore_n 2, 1) := by decide +kernel
theorem dX5_copyFrom_2 : decode cX5_copyFrom 2 = .ok (.iload_n 2, 1) := by decide +kernel
theorem dX5_copyFrom_3 : decode cX5_copyFrom 3 = .ok (.iconst 2, 1) := by decide +kernel
theorem dX5_copyFrom_4 : decode cX5_copyFrom 4 = .ok (.if_icmp .ge 45, 3) := by decide +kernel
theorem dX5_copyFrom_7 : decode cX5_copyFrom 7 = .ok (.aload_n 0, 1) := by decide +kernel
theorem dX5_copyFrom_8 : decode cX5_copyFrom 8 = .ok (.getfield 18, 3) := by decide +kernel
theorem dX5_copyFrom_11 : decode cX5_copyFrom 11 = .ok (.iload_n 2, 1) := by decide +kernel
theorem dX5_copyFrom_12 : decode cX5_copyFrom 12 = .ok (.aload_n 1, 1) := by decide +kernel
theorem dX5_copyFrom_13 : decode cX5_copyFrom 13 = .ok (.getfield 18, 3) := by decide +kernel
theorem dX5_copyFrom_16 : decode cX5_copyFrom 16 = .ok (.iload_n 2, 1) := by decide +kernel
theorem dX5_copyFrom_17 : decode cX5_copyFrom 17 = .ok (.baload, 1) := by decide +kernel
theorem dX5_copyFrom_18 : decode cX5_copyFrom 18 = .ok (.bastore, 1) := by decide +kernel
theorem dX5_copyFrom_19 : decode cX5_copyFrom 19 = .ok (.aload_n 0, 1) := by decide +kernel
theorem dX5_copyFrom_20 : decode cX5_copyFrom 20 = .ok (.getfield 18, 3) := by decide +kernel
theorem dX5_copyFrom_23 : decode cX5_copyFrom 23 = .ok (.iload_n 2, 1) := by decide +kernel
theorem dX5_copyFrom_24 : decode cX5_copyFrom 24 = .ok (.baload, 1) := by decide +kernel
theorem dX5_copyFrom_25 : decode cX5_copyFrom 25 = .ok (.ifCond .eq 18, 3) := by decide +kernel
theorem dX5_copyFrom_28 : decode cX5_copyFrom 28 = .ok (.aload_n 0, 1) := by decide +kernel
theorem dX5_copyFrom_29 : decode cX5_copyFrom 29 = .ok (.getfield 12, 3) := by decide +kernel
theorem dX5_copyFrom_32 : decode cX5_copyFrom 32 = .ok (.iload_n 2, 1) := by decide +kernel
theorem dX5_copyFrom_33 : decode cX5_copyFrom 33 = .ok (.aaload, 1) := by decide +kernel
theorem dX5_copyFrom_34 : decode cX5_copyFrom 34 = .ok (.aload_n 1, 1) := by decide +kernel
theorem dX5_copyFrom_35 : decode cX5_copyFrom 35 = .ok (.getfield 12, 3) := by decide +kernel
theorem dX5_copyFrom_38 : decode cX5_copyFrom 38 = .ok (.iload_n 2, 1) := by decide +kernel
theorem dX5_copyFrom_39 : decode cX5_copyFrom 39 = .ok (.aaload, 1) := by decide +kernel
theorem dX5_copyFrom_40 : decode cX5_copyFrom 40 = .ok (.invokevirtual 22, 3) := by decide +kernel
theorem dX5_copyFrom_43 : decode cX5_copyFrom 43 = .ok (.iinc 2 1, 3) := by decide +kernel
theorem dX5_copyFrom_46 : decode cX5_copyFrom 46 = .ok (.goto (-44), 3) := by decide +kernel
theorem dX5_copyFrom_49 : decode cX5_copyFrom 49 = .ok (.return_, 1) := by decide +kernel
theorem dX5_isFull_0 : decode cX5_isFull 0 = .ok (.iload_n 1, 1) := by decide +kernel
theorem dX5_isFull_1 : decode cX5_isFull 1 = .ok (.iconst 0, 1) := by decide +kernel
theorem dX5_isFull_2 : decode cX5_isFull 2 = .ok (.iconst 1, 1) := by decide +kernel
theorem dX5_isFull_3 : decode cX5_isFull 3 = .ok (.invokestatic 26, 3) := by decide +kernel
theorem dX5_isFull_6 : decode cX5_isFull 6 = .ok (.ifCond .eq 16, 3) := by decide +kernel
theorem dX5_isFull_9 : decode cX5_isFull 9 = .ok (.aload_n 0, 1) := by decide +kernel
theorem dX5_isFull_10 : decode cX5_isFull 10 = .ok (.getfield 18, 3) := by decide +kernel
theorem dX5_isFull_13 : decode cX5_isFull 13 = .ok (.iload_n 1, 1) := by decide +kernel
theorem dX5_isFull_14 : decode cX5_isFull 14 = .ok (.baload, 1) := by decide +kernel
theorem dX5_isFull_15 : decode cX5_isFull 15 = .ok (.ifCond .eq 7, 3) := by decide +kernel
theorem dX5_isFull_18 : decode cX5_isFull 18 = .ok (.iconst 1, 1) := by decide +kernel
theorem dX5_isFull_19 : decode cX5_isFull 19 = .ok (.goto 4, 3) := by decide +kernel
theorem dX5_isFull_22 : decode cX5_isFull 22 = .ok (.iconst 0, 1) := by decide +kernel
theorem dX5_isFull_23 : decode cX5_isFull 23 = .ok (.ireturn, 1) := by decide +kernel
theorem dX5_keep_0 : decode cX5_keep 0 = .ok (.iload_n 1, 1) := by decide +kernel
theorem dX5_keep_1 : decode cX5_keep 1 = .ok (.iconst 0, 1) := by decide +kernel
theorem dX5_keep_2 : decode cX5_keep 2 = .ok (.iconst 1, 1) := by decide +kernel
theorem dX5_keep_3 : decode cX5_keep 3 = .ok (.invokestatic 26, 3) := by decide +kernel
theorem dX5_keep_6 : decode cX5_keep 6 = .ok (.ifCond .eq 20, 3) := by decide +kernel
theorem dX5_keep_9 : decode cX5_keep 9 = .ok (.aload_n 0, 1) := by decide +kernel
theorem dX5_keep_10 : decode cX5_keep 10 = .ok (.getfield 12, 3) := by decide +kernel
theorem dX5_keep_13 : decode cX5_keep 13 = .ok (.iload_n 1, 1) := by decide +kernel
theorem dX5_keep_14 : decode cX5_keep 14 = .ok (.aaload, 1) := by decide +kernel
theorem dX5_keep_15 : decode cX5_keep 15 = .ok (.aload_n 2, 1) := by decide +kernel
theorem dX5_keep_16 : decode cX5_keep 16 = .ok (.invokevirtual 22, 3) := by decide +kernel
theorem dX5_keep_19 : decode cX5_keep 19 = .ok (.aload_n 0, 1) := by decide +kernel
theorem dX5_keep_20 : decode cX5_keep 20 = .ok (.getfield 18, 3) := by decide +kernel
theorem dX5_keep_23 : decode cX5_keep 23 = .ok (.iload_n 1, 1) := by decide +kernel
theorem dX5_keep_24 : decode cX5_keep 24 = .ok (.iconst 1, 1) := by decide +kernel
theorem dX5_keep_25 : decode cX5_keep 25 = .ok (.bastore, 1) := by decide +kernel
theorem dX5_keep_26 : decode cX5_keep 26 = .ok (.return_, 1) := by decide +kernel
theorem dX5_giveBack_0 : decode cX5_giveBack 0 = .ok (.aload_n 0, 1) := by decide +kernel
theorem dX5_giveBack_1 : decode cX5_giveBack 1 = .ok (.iload_n 1, 1) := by decide +kernel
theorem dX5_giveBack_2 : decode cX5_giveBack 2 = .ok (.invokevirtual 30, 3) := by decide +kernel
theorem dX5_giveBack_5 : decode cX5_giveBack 5 = .ok (.ifCond .eq 13, 3) := by decide +kernel
theorem dX5_giveBack_8 : decode cX5_giveBack 8 = .ok (.aload_n 2, 1) := by decide +kernel
theorem dX5_giveBack_9 : decode cX5_giveBack 9 = .ok (.aload_n 0, 1) := by decide +kernel
theorem dX5_giveBack_10 : decode cX5_giveBack 10 = .ok (.getfield 12, 3) := by decide +kernel
theorem dX5_giveBack_13 : decode cX5_giveBack 13 = .ok (.iload_n 1, 1) := by decide +kernel
theorem dX5_giveBack_14 : decode cX5_giveBack 14 = .ok (.aaload, 1) := by decide +kernel
theorem dX5_giveBack_15 : decode cX5_giveBack 15 = .ok (.invokevirtual 22, 3) := by decide +kernel
theorem dX5_giveBack_18 : decode cX5_giveBack 18 = .ok (.return_, 1) := by decide +kernel
theorem dX5_snapshots_0 : decode cX5_snapshots 0 = .ok (.iconst 0, 1) := by decide +kernel
theorem dX5_snapshots_1 : decode cX5_snapshots 1 = .ok (.istore_n 1, 1) := by decide +kernel
theorem dX5_snapshots_2 : decode cX5_snapshots 2 = .ok (.iconst 0, 1) := by decide +kernel
theorem dX5_snapshots_3 : decode cX5_snapshots 3 = .ok (.istore_n 2, 1) := by decide +kernel
theorem dX5_snapshots_4 : decode cX5_snapshots 4 = .ok (.iload_n 2, 1) := by decide +kernel
theorem dX5_snapshots_5 : decode cX5_snapshots 5 = .ok (.iconst 2, 1) := by decide +kernel
theorem dX5_snapshots_6 : decode cX5_snapshots 6 = .ok (.if_icmp .ge 21, 3) := by decide +kernel
theorem dX5_snapshots_9 : decode cX5_snapshots 9 = .ok (.aload_n 0, 1) := by decide +kernel
theorem dX5_snapshots_10 : decode cX5_snapshots 10 = .ok (.getfield 18, 3) := by decide +kernel
theorem dX5_snapshots_13 : decode cX5_snapshots 13 = .ok (.iload_n 2, 1) := by decide +kernel
theorem dX5_snapshots_14 : decode cX5_snapshots 14 = .ok (.baload, 1) := by decide +kernel
theorem dX5_snapshots_15 : decode cX5_snapshots 15 = .ok (.ifCond .eq 6, 3) := by decide +kernel
theorem dX5_snapshots_18 : decode cX5_snapshots 18 = .ok (.iinc 1 1, 3) := by decide +kernel
theorem dX5_snapshots_21 : decode cX5_snapshots 21 = .ok (.iinc 2 1, 3) := by decide +kernel
theorem dX5_snapshots_24 : decode cX5_snapshots 24 = .ok (.goto (-20), 3) := by decide +kernel
theorem dX5_snapshots_27 : decode cX5_snapshots 27 = .ok (.iload_n 1, 1) := by decide +kernel
theorem dX5_snapshots_28 : decode cX5_snapshots 28 = .ok (.ireturn, 1) := by decide +kernel
theorem dX6_init_0 : decode cX6_init 0 = .ok (.aload_n 0, 1) := by decide +kernel
theorem dX6_init_1 : decode cX6_init 1 = .ok (.invokespecial 1, 3) := by decide +kernel
theorem dX6_init_4 : decode cX6_init 4 = .ok (.aload_n 0, 1) := by decide +kernel
theorem dX6_init_5 : decode cX6_init 5 = .ok (.new 7, 3) := by decide +kernel
theorem dX6_init_8 : decode cX6_init 8 = .ok (.dup, 1) := by decide +kernel
theorem dX6_init_9 : decode cX6_init 9 = .ok (.invokespecial 9, 3) := by decide +kernel
theorem dX6_init_12 : decode cX6_init 12 = .ok (.putfield 10, 3) := by decide +kernel
theorem dX6_init_15 : decode cX6_init 15 = .ok (.aload_n 0, 1) := by decide +kernel
theorem dX6_init_16 : decode cX6_init 16 = .ok (.new 16, 3) := by decide +kernel
theorem dX6_init_19 : decode cX6_init 19 = .ok (.dup, 1) := by decide +kernel
theorem dX6_init_20 : decode cX6_init 20 = .ok (.invokespecial 18, 3) := by decide +kernel
theorem dX6_init_23 : decode cX6_init 23 = .ok (.putfield 19, 3) := by decide +kernel
theorem dX6_init_26 : decode cX6_init 26 = .ok (.return_, 1) := by decide +kernel
theorem dX6_keep_0 : decode cX6_keep 0 = .ok (.aload_n 0, 1) := by decide +kernel
theorem dX6_keep_1 : decode cX6_keep 1 = .ok (.getfield 10, 3) := by decide +kernel
theorem dX6_keep_4 : decode cX6_keep 4 = .ok (.aload_n 1, 1) := by decide +kernel
theorem dX6_keep_5 : decode cX6_keep 5 = .ok (.invokevirtual 23, 3) := by decide +kernel
theorem dX6_keep_8 : decode cX6_keep 8 = .ok (.aload_n 0, 1) := by decide +kernel
theorem dX6_keep_9 : decode cX6_keep 9 = .ok (.getfield 19, 3) := by decide +kernel
theorem dX6_keep_12 : decode cX6_keep 12 = .ok (.aload_n 2, 1) := by decide +kernel
theorem dX6_keep_13 : decode cX6_keep 13 = .ok (.invokevirtual 27, 3) := by decide +kernel
theorem dX6_keep_16 : decode cX6_keep 16 = .ok (.return_, 1) := by decide +kernel
theorem dX6_giveBack_0 : decode cX6_giveBack 0 = .ok (.aload_n 1, 1) := by decide +kernel
theorem dX6_giveBack_1 : decode cX6_giveBack 1 = .ok (.aload_n 0, 1) := by decide +kernel
theorem dX6_giveBack_2 : decode cX6_giveBack 2 = .ok (.getfield 10, 3) := by decide +kernel
theorem dX6_giveBack_5 : decode cX6_giveBack 5 = .ok (.invokevirtual 23, 3) := by decide +kernel
theorem dX6_giveBack_8 : decode cX6_giveBack 8 = .ok (.aload_n 2, 1) := by decide +kernel
theorem dX6_giveBack_9 : decode cX6_giveBack 9 = .ok (.aload_n 0, 1) := by decide +kernel
theorem dX6_giveBack_10 : decode cX6_giveBack 10 = .ok (.getfield 19, 3) := by decide +kernel
theorem dX6_giveBack_13 : decode cX6_giveBack 13 = .ok (.invokevirtual 27, 3) := by decide +kernel
theorem dX6_giveBack_16 : decode cX6_giveBack 16 = .ok (.return_, 1) := by decide +kernel
theorem dX7_init_0 : decode cX7_init 0 = .ok (.aload_n 0, 1) := by decide +kernel
theorem dX7_init_1 : decode cX7_init 1 = .ok (.invokespecial 3, 3) := by decide +kernel
theorem dX7_init_4 : decode cX7_init 4 = .ok (.aload_n 0, 1) := by decide +kernel
theorem dX7_init_5 : decode cX7_init 5 = .ok (.sipush 140, 3) := by decide +kernel
theorem dX7_init_8 : decode cX7_init 8 = .ok (.newarray .int, 2) := by decide +kernel
theorem dX7_init_10 : decode cX7_init 10 = .ok (.putfield 9, 3) := by decide +kernel
theorem dX7_init_13 : decode cX7_init 13 = .ok (.return_, 1) := by decide +kernel
theorem dX7_add_0 : decode cX7_add 0 = .ok (.aload_n 0, 1) := by decide +kernel
theorem dX7_add_1 : decode cX7_add 1 = .ok (.getfield 15, 3) := by decide +kernel
theorem dX7_add_4 : decode cX7_add 4 = .ok (.sipush 140, 3) := by decide +kernel
theorem dX7_add_7 : decode cX7_add 7 = .ok (.if_icmp .lt 6, 3) := by decide +kernel
theorem dX7_add_10 : decode cX7_add 10 = .ok (.bipush (-3), 2) := by decide +kernel
theorem dX7_add_12 : decode cX7_add 12 = .ok (.ireturn, 1) := by decide +kernel
theorem dX7_add_13 : decode cX7_add 13 = .ok (.aload_n 0, 1) := by decide +kernel
theorem dX7_add_14 : decode cX7_add 14 = .ok (.getfield 9, 3) := by decide +kernel
theorem dX7_add_17 : decode cX7_add 17 = .ok (.aload_n 0, 1) := by decide +kernel
theorem dX7_add_18 : decode cX7_add 18 = .ok (.getfield 15, 3) := by decide +kernel
theorem dX7_add_21 : decode cX7_add 21 = .ok (.iload_n 1, 1) := by decide +kernel
theorem dX7_add_22 : decode cX7_add 22 = .ok (.iastore, 1) := by decide +kernel
theorem dX7_add_23 : decode cX7_add 23 = .ok (.aload_n 0, 1) := by decide +kernel
theorem dX7_add_24 : decode cX7_add 24 = .ok (.dup, 1) := by decide +kernel
theorem dX7_add_25 : decode cX7_add 25 = .ok (.getfield 15, 3) := by decide +kernel
theorem dX7_add_28 : decode cX7_add 28 = .ok (.iconst 1, 1) := by decide +kernel
theorem dX7_add_29 : decode cX7_add 29 = .ok (.iadd, 1) := by decide +kernel
theorem dX7_add_30 : decode cX7_add 30 = .ok (.putfield 15, 3) := by decide +kernel
theorem dX7_add_33 : decode cX7_add 33 = .ok (.aload_n 0, 1) := by decide +kernel
theorem dX7_add_34 : decode cX7_add 34 = .ok (.getfield 15, 3) := by decide +kernel
theorem dX7_add_37 : decode cX7_add 37 = .ok (.ireturn, 1) := by decide +kernel
theorem dX7_empty_0 : decode cX7_empty 0 = .ok (.aload_n 0, 1) := by decide +kernel
theorem dX7_empty_1 : decode cX7_empty 1 = .ok (.getfield 15, 3) := by decide +kernel
theorem dX7_empty_4 : decode cX7_empty 4 = .ok (.istore_n 1, 1) := by decide +kernel
theorem dX7_empty_5 : decode cX7_empty 5 = .ok (.aload_n 0, 1) := by decide +kernel
theorem dX7_empty_6 : decode cX7_empty 6 = .ok (.iconst 0, 1) := by decide +kernel
theorem dX7_empty_7 : decode cX7_empty 7 = .ok (.putfield 15, 3) := by decide +kernel
theorem dX7_empty_10 : decode cX7_empty 10 = .ok (.iload_n 1, 1) := by decide +kernel
theorem dX7_empty_11 : decode cX7_empty 11 = .ok (.ireturn, 1) := by decide +kernel
theorem dX7_rewind_0 : decode cX7_rewind 0 = .ok (.aload_n 0, 1) := by decide +kernel
theorem dX7_rewind_1 : decode cX7_rewind 1 = .ok (.iconst 0, 1) := by decide +kernel
theorem dX7_rewind_2 : decode cX7_rewind 2 = .ok (.putfield 19, 3) := by decide +kernel
theorem dX7_rewind_5 : decode cX7_rewind 5 = .ok (.return_, 1) := by decide +kernel
theorem dX7_readToken_0 : decode cX7_readToken 0 = .ok (.aload_n 0, 1) := by decide +kernel
theorem dX7_readToken_1 : decode cX7_readToken 1 = .ok (.getfield 19, 3) := by decide +kernel
theorem dX7_readToken_4 : decode cX7_readToken 4 = .ok (.aload_n 0, 1) := by decide +kernel
theorem dX7_readToken_5 : decode cX7_readToken 5 = .ok (.getfield 15, 3) := by decide +kernel
theorem dX7_readToken_8 : decode cX7_readToken 8 = .ok (.if_icmp .ge 30, 3) := by decide +kernel
theorem dX7_readToken_11 : decode cX7_readToken 11 = .ok (.aload_n 0, 1) := by decide +kernel
theorem dX7_readToken_12 : decode cX7_readToken 12 = .ok (.getfield 9, 3) := by decide +kernel
theorem dX7_readToken_15 : decode cX7_readToken 15 = .ok (.aload_n 0, 1) := by decide +kernel
theorem dX7_readToken_16 : decode cX7_readToken 16 = .ok (.getfield 19, 3) := by decide +kernel
theorem dX7_readToken_19 : decode cX7_readToken 19 = .ok (.iaload, 1) := by decide +kernel
theorem dX7_readToken_20 : decode cX7_readToken 20 = .ok (.bipush 32, 2) := by decide +kernel
theorem dX7_readToken_22 : decode cX7_readToken 22 = .ok (.if_icmp .ne 16, 3) := by decide +kernel
theorem dX7_readToken_25 : decode cX7_readToken 25 = .ok (.aload_n 0, 1) := by decide +kernel
theorem dX7_readToken_26 : decode cX7_readToken 26 = .ok (.dup, 1) := by decide +kernel
theorem dX7_readToken_27 : decode cX7_readToken 27 = .ok (.getfield 19, 3) := by decide +kernel
theorem dX7_readToken_30 : decode cX7_readToken 30 = .ok (.iconst 1, 1) := by decide +kernel
theorem dX7_readToken_31 : decode cX7_readToken 31 = .ok (.iadd, 1) := by decide +kernel
theorem dX7_readToken_32 : decode cX7_readToken 32 = .ok (.putfield 19, 3) := by decide +kernel
theorem dX7_readToken_35 : decode cX7_readToken 35 = .ok (.goto (-35), 3) := by decide +kernel
theorem dX7_readToken_38 : decode cX7_readToken 38 = .ok (.aload_n 0, 1) := by decide +kernel
theorem dX7_readToken_39 : decode cX7_readToken 39 = .ok (.aload_n 0, 1) := by decide +kernel
theorem dX7_readToken_40 : decode cX7_readToken 40 = .ok (.getfield 19, 3) := by decide +kernel
theorem dX7_readToken_43 : decode cX7_readToken 43 = .ok (.putfield 22, 3) := by decide +kernel
theorem dX7_readToken_46 : decode cX7_readToken 46 = .ok (.aload_n 0, 1) := by decide +kernel
theorem dX7_readToken_47 : decode cX7_readToken 47 = .ok (.getfield 19, 3) := by decide +kernel
theorem dX7_readToken_50 : decode cX7_readToken 50 = .ok (.aload_n 0, 1) := by decide +kernel
theorem dX7_readToken_51 : decode cX7_readToken 51 = .ok (.getfield 15, 3) := by decide +kernel
theorem dX7_readToken_54 : decode cX7_readToken 54 = .ok (.if_icmp .lt 9, 3) := by decide +kernel
theorem dX7_readToken_57 : decode cX7_readToken 57 = .ok (.aload_n 0, 1) := by decide +kernel
theorem dX7_readToken_58 : decode cX7_readToken 58 = .ok (.iconst 0, 1) := by decide +kernel
theorem dX7_readToken_59 : decode cX7_readToken 59 = .ok (.putfield 25, 3) := by decide +kernel
theorem dX7_readToken_62 : decode cX7_readToken 62 = .ok (.return_, 1) := by decide +kernel
theorem dX7_readToken_63 : decode cX7_readToken 63 = .ok (.aload_n 0, 1) := by decide +kernel
theorem dX7_readToken_64 : decode cX7_readToken 64 = .ok (.aload_n 0, 1) := by decide +kernel
theorem dX7_readToken_65 : decode cX7_readToken 65 = .ok (.getfield 9, 3) := by decide +kernel
theorem dX7_readToken_68 : decode cX7_readToken 68 = .ok (.aload_n 0, 1) := by decide +kernel
theorem dX7_readToken_69 : decode cX7_readToken 69 = .ok (.getfield 19, 3) := by decide +kernel
theorem dX7_readToken_72 : decode cX7_readToken 72 = .ok (.iaload, 1) := by decide +kernel
theorem dX7_readToken_73 : decode cX7_readToken 73 = .ok (.invokestatic 28, 3) := by decide +kernel
theorem dX7_readToken_76 : decode cX7_readToken 76 = .ok (.putfield 25, 3) := by decide +kernel
theorem dX7_readToken_79 : decode cX7_readToken 79 = .ok (.aload_n 0, 1) := by decide +kernel
theorem dX7_readToken_80 : decode cX7_readToken 80 = .ok (.dup, 1) := by decide +kernel
theorem dX7_readToken_81 : decode cX7_readToken 81 = .ok (.getfield 19, 3) := by decide +kernel
theorem dX7_readToken_84 : decode cX7_readToken 84 = .ok (.iconst 1, 1) := by decide +kernel
theorem dX7_readToken_85 : decode cX7_readToken 85 = .ok (.iadd, 1) := by decide +kernel
theorem dX7_readToken_86 : decode cX7_readToken 86 = .ok (.putfield 19, 3) := by decide +kernel
theorem dX7_readToken_89 : decode cX7_readToken 89 = .ok (.aload_n 0, 1) := by decide +kernel
theorem dX7_readToken_90 : decode cX7_readToken 90 = .ok (.getfield 25, 3) := by decide +kernel
theorem dX7_readToken_93 : decode cX7_readToken 93 = .ok (.iconst 3, 1) := by decide +kernel
theorem dX7_readToken_94 : decode cX7_readToken 94 = .ok (.if_icmp .eq 46, 3) := by decide +kernel
theorem dX7_readToken_97 : decode cX7_readToken 97 = .ok (.aload_n 0, 1) := by decide +kernel
theorem dX7_readToken_98 : decode cX7_readToken 98 = .ok (.getfield 19, 3) := by decide +kernel
theorem dX7_readToken_101 : decode cX7_readToken 101 = .ok (.aload_n 0, 1) := by decide +kernel
theorem dX7_readToken_102 : decode cX7_readToken 102 = .ok (.getfield 15, 3) := by decide +kernel
theorem dX7_readToken_105 : decode cX7_readToken 105 = .ok (.if_icmp .ge 35, 3) := by decide +kernel
theorem dX7_readToken_108 : decode cX7_readToken 108 = .ok (.aload_n 0, 1) := by decide +kernel
theorem dX7_readToken_109 : decode cX7_readToken 109 = .ok (.getfield 9, 3) := by decide +kernel
theorem dX7_readToken_112 : decode cX7_readToken 112 = .ok (.aload_n 0, 1) := by decide +kernel
theorem dX7_readToken_113 : decode cX7_readToken 113 = .ok (.getfield 19, 3) := by decide +kernel
theorem dX7_readToken_116 : decode cX7_readToken 116 = .ok (.iaload, 1) := by decide +kernel
theorem dX7_readToken_117 : decode cX7_readToken 117 = .ok (.invokestatic 28, 3) := by decide +kernel
theorem dX7_readToken_120 : decode cX7_readToken 120 = .ok (.aload_n 0, 1) := by decide +kernel
theorem dX7_readToken_121 : decode cX7_readToken 121 = .ok (.getfield 25, 3) := by decide +kernel
theorem dX7_readToken_124 : decode cX7_readToken 124 = .ok (.if_icmp .ne 16, 3) := by decide +kernel
theorem dX7_readToken_127 : decode cX7_readToken 127 = .ok (.aload_n 0, 1) := by decide +kernel
theorem dX7_readToken_128 : decode cX7_readToken 128 = .ok (.dup, 1) := by decide +kernel
theorem dX7_readToken_129 : decode cX7_readToken 129 = .ok (.getfield 19, 3) := by decide +kernel
theorem dX7_readToken_132 : decode cX7_readToken 132 = .ok (.iconst 1, 1) := by decide +kernel
theorem dX7_readToken_133 : decode cX7_readToken 133 = .ok (.iadd, 1) := by decide +kernel
theorem dX7_readToken_134 : decode cX7_readToken 134 = .ok (.putfield 19, 3) := by decide +kernel
theorem dX7_readToken_137 : decode cX7_readToken 137 = .ok (.goto (-48), 3) := by decide +kernel
theorem dX7_readToken_140 : decode cX7_readToken 140 = .ok (.return_, 1) := by decide +kernel
theorem dX7_kindOf_0 : decode cX7_kindOf 0 = .ok (.iload_n 0, 1) := by decide +kernel
theorem dX7_kindOf_1 : decode cX7_kindOf 1 = .ok (.bipush 97, 2) := by decide +kernel
theorem dX7_kindOf_3 : decode cX7_kindOf 3 = .ok (.if_icmp .lt 11, 3) := by decide +kernel
theorem dX7_kindOf_6 : decode cX7_kindOf 6 = .ok (.iload_n 0, 1) := by decide +kernel
theorem dX7_kindOf_7 : decode cX7_kindOf 7 = .ok (.bipush 122, 2) := by decide +kernel
theorem dX7_kindOf_9 : decode cX7_kindOf 9 = .ok (.if_icmp .gt 5, 3) := by decide +kernel
theorem dX7_kindOf_12 : decode cX7_kindOf 12 = .ok (.iconst 1, 1) := by decide +kernel
theorem dX7_kindOf_13 : decode cX7_kindOf 13 = .ok (.ireturn, 1) := by decide +kernel
theorem dX7_kindOf_14 : decode cX7_kindOf 14 = .ok (.iload_n 0, 1) := by decide +kernel
theorem dX7_kindOf_15 : decode cX7_kindOf 15 = .ok (.bipush 48, 2) := by decide +kernel
theorem dX7_kindOf_17 : decode cX7_kindOf 17 = .ok (.if_icmp .lt 13, 3) := by decide +kernel
theorem dX7_kindOf_20 : decode cX7_kindOf 20 = .ok (.iload_n 0, 1) := by decide +kernel
theorem dX7_kindOf_21 : decode cX7_kindOf 21 = .ok (.bipush 57, 2) := by decide +kernel
theorem dX7_kindOf_23 : decode cX7_kindOf 23 = .ok (.if_icmp .gt 7, 3) := by decide +kernel
theorem dX7_kindOf_26 : decode cX7_kindOf 26 = .ok (.iconst 2, 1) := by decide +kernel
theorem dX7_kindOf_27 : decode cX7_kindOf 27 = .ok (.goto 4, 3) := by decide +kernel
theorem dX7_kindOf_30 : decode cX7_kindOf 30 = .ok (.iconst 3, 1) := by decide +kernel
theorem dX7_kindOf_31 : decode cX7_kindOf 31 = .ok (.ireturn, 1) := by decide +kernel
theorem dX7_isWord_0 : decode cX7_isWord 0 = .ok (.aload_n 0, 1) := by decide +kernel
theorem dX7_isWord_1 : decode cX7_isWord 1 = .ok (.getfield 25, 3) := by decide +kernel
theorem dX7_isWord_4 : decode cX7_isWord 4 = .ok (.iconst 1, 1) := by decide +kernel
theorem dX7_isWord_5 : decode cX7_isWord 5 = .ok (.if_icmp .ne 19, 3) := by decide +kernel
theorem dX7_isWord_8 : decode cX7_isWord 8 = .ok (.aload_n 0, 1) := by decide +kernel
theorem dX7_isWord_9 : decode cX7_isWord 9 = .ok (.getfield 19, 3) := by decide +kernel
theorem dX7_isWord_12 : decode cX7_isWord 12 = .ok (.aload_n 0, 1) := by decide +kernel
theorem dX7_isWord_13 : decode cX7_isWord 13 = .ok (.getfield 22, 3) := by decide +kernel
theorem dX7_isWord_16 : decode cX7_isWord 16 = .ok (.isub, 1) := by decide +kernel
theorem dX7_isWord_17 : decode cX7_isWord 17 = .ok (.aload_n 1, 1) := by decide +kernel
theorem dX7_isWord_18 : decode cX7_isWord 18 = .ok (.invokevirtual 32, 3) := by decide +kernel
theorem dX7_isWord_21 : decode cX7_isWord 21 = .ok (.if_icmp .eq 5, 3) := by decide +kernel
theorem dX7_isWord_24 : decode cX7_isWord 24 = .ok (.iconst 0, 1) := by decide +kernel
theorem dX7_isWord_25 : decode cX7_isWord 25 = .ok (.ireturn, 1) := by decide +kernel
theorem dX7_isWord_26 : decode cX7_isWord 26 = .ok (.aload_n 0, 1) := by decide +kernel
theorem dX7_isWord_27 : decode cX7_isWord 27 = .ok (.getfield 22, 3) := by decide +kernel
theorem dX7_isWord_30 : decode cX7_isWord 30 = .ok (.istore_n 2, 1) := by decide +kernel
theorem dX7_isWord_31 : decode cX7_isWord 31 = .ok (.iload_n 2, 1) := by decide +kernel
theorem dX7_isWord_32 : decode cX7_isWord 32 = .ok (.aload_n 0, 1) := by decide +kernel
theorem dX7_isWord_33 : decode cX7_isWord 33 = .ok (.getfield 19, 3) := by decide +kernel
theorem dX7_isWord_36 : decode cX7_isWord 36 = .ok (.if_icmp .ge 30, 3) := by decide +kernel
theorem dX7_isWord_39 : decode cX7_isWord 39 = .ok (.aload_n 0, 1) := by decide +kernel
theorem dX7_isWord_40 : decode cX7_isWord 40 = .ok (.getfield 9, 3) := by decide +kernel
theorem dX7_isWord_43 : decode cX7_isWord 43 = .ok (.iload_n 2, 1) := by decide +kernel
theorem dX7_isWord_44 : decode cX7_isWord 44 = .ok (.iaload, 1) := by decide +kernel
theorem dX7_isWord_45 : decode cX7_isWord 45 = .ok (.aload_n 1, 1) := by decide +kernel
theorem dX7_isWord_46 : decode cX7_isWord 46 = .ok (.iload_n 2, 1) := by decide +kernel
theorem dX7_isWord_47 : decode cX7_isWord 47 = .ok (.aload_n 0, 1) := by decide +kernel
theorem dX7_isWord_48 : decode cX7_isWord 48 = .ok (.getfield 22, 3) := by decide +kernel
theorem dX7_isWord_51 : decode cX7_isWord 51 = .ok (.isub, 1) := by decide +kernel
theorem dX7_isWord_52 : decode cX7_isWord 52 = .ok (.invokevirtual 37, 3) := by decide +kernel
theorem dX7_isWord_55 : decode cX7_isWord 55 = .ok (.if_icmp .eq 5, 3) := by decide +kernel
theorem dX7_isWord_58 : decode cX7_isWord 58 = .ok (.iconst 0, 1) := by decide +kernel
theorem dX7_isWord_59 : decode cX7_isWord 59 = .ok (.ireturn, 1) := by decide +kernel
theorem dX7_isWord_60 : decode cX7_isWord 60 = .ok (.iinc 2 1, 3) := by decide +kernel
theorem dX7_isWord_63 : decode cX7_isWord 63 = .ok (.goto (-32), 3) := by decide +kernel
theorem dX7_isWord_66 : decode cX7_isWord 66 = .ok (.iconst 1, 1) := by decide +kernel
theorem dX7_isWord_67 : decode cX7_isWord 67 = .ok (.ireturn, 1) := by decide +kernel
theorem dX7_isNumber_0 : decode cX7_isNumber 0 = .ok (.aload_n 0, 1) := by decide +kernel
theorem dX7_isNumber_1 : decode cX7_isNumber 1 = .ok (.getfield 25, 3) := by decide +kernel
theorem dX7_isNumber_4 : decode cX7_isNumber 4 = .ok (.iconst 2, 1) := by decide +kernel
theorem dX7_isNumber_5 : decode cX7_isNumber 5 = .ok (.if_icmp .ne 16, 3) := by decide +kernel
theorem dX7_isNumber_8 : decode cX7_isNumber 8 = .ok (.aload_n 0, 1) := by decide +kernel
theorem dX7_isNumber_9 : decode cX7_isNumber 9 = .ok (.getfield 19, 3) := by decide +kernel
theorem dX7_isNumber_12 : decode cX7_isNumber 12 = .ok (.aload_n 0, 1) := by decide +kernel
theorem dX7_isNumber_13 : decode cX7_isNumber 13 = .ok (.getfield 22, 3) := by decide +kernel
theorem dX7_isNumber_16 : decode cX7_isNumber 16 = .ok (.isub, 1) := by decide +kernel
theorem dX7_isNumber_17 : decode cX7_isNumber 17 = .ok (.iconst 5, 1) := by decide +kernel
theorem dX7_isNumber_18 : decode cX7_isNumber 18 = .ok (.if_icmp .le 5, 3) := by decide +kernel
theorem dX7_isNumber_21 : decode cX7_isNumber 21 = .ok (.iconst 0, 1) := by decide +kernel
theorem dX7_isNumber_22 : decode cX7_isNumber 22 = .ok (.ireturn, 1) := by decide +kernel
theorem dX7_isNumber_23 : decode cX7_isNumber 23 = .ok (.aload_n 0, 1) := by decide +kernel
theorem dX7_isNumber_24 : decode cX7_isNumber 24 = .ok (.getfield 19, 3) := by decide +kernel
theorem dX7_isNumber_27 : decode cX7_isNumber 27 = .ok (.aload_n 0, 1) := by decide +kernel
theorem dX7_isNumber_28 : decode cX7_isNumber 28 = .ok (.getfield 22, 3) := by decide +kernel
theorem dX7_isNumber_31 : decode cX7_isNumber 31 = .ok (.isub, 1) := by decide +kernel
theorem dX7_isNumber_32 : decode cX7_isNumber 32 = .ok (.iconst 1, 1) := by decide +kernel
theorem dX7_isNumber_33 : decode cX7_isNumber 33 = .ok (.if_icmp .eq 17, 3) := by decide +kernel
theorem dX7_isNumber_36 : decode cX7_isNumber 36 = .ok (.aload_n 0, 1) := by decide +kernel
theorem dX7_isNumber_37 : decode cX7_isNumber 37 = .ok (.getfield 9, 3) := by decide +kernel
theorem dX7_isNumber_40 : decode cX7_isNumber 40 = .ok (.aload_n 0, 1) := by decide +kernel
theorem dX7_isNumber_41 : decode cX7_isNumber 41 = .ok (.getfield 22, 3) := by decide +kernel
theorem dX7_isNumber_44 : decode cX7_isNumber 44 = .ok (.iaload, 1) := by decide +kernel
theorem dX7_isNumber_45 : decode cX7_isNumber 45 = .ok (.bipush 48, 2) := by decide +kernel
theorem dX7_isNumber_47 : decode cX7_isNumber 47 = .ok (.if_icmp .eq 7, 3) := by decide +kernel
theorem dX7_isNumber_50 : decode cX7_isNumber 50 = .ok (.iconst 1, 1) := by decide +kernel
theorem dX7_isNumber_51 : decode cX7_isNumber 51 = .ok (.goto 4, 3) := by decide +kernel
theorem dX7_isNumber_54 : decode cX7_isNumber 54 = .ok (.iconst 0, 1) := by decide +kernel
theorem dX7_isNumber_55 : decode cX7_isNumber 55 = .ok (.ireturn, 1) := by decide +kernel
theorem dX7_isWholeRow_0 : decode cX7_isWholeRow 0 = .ok (.aload_n 0, 1) := by decide +kernel
theorem dX7_isWholeRow_1 : decode cX7_isWholeRow 1 = .ok (.getfield 25, 3) := by decide +kernel
theorem dX7_isWholeRow_4 : decode cX7_isWholeRow 4 = .ok (.iconst 2, 1) := by decide +kernel
theorem dX7_isWholeRow_5 : decode cX7_isWholeRow 5 = .ok (.if_icmp .ne 21, 3) := by decide +kernel
theorem dX7_isWholeRow_8 : decode cX7_isWholeRow 8 = .ok (.aload_n 0, 1) := by decide +kernel
theorem dX7_isWholeRow_9 : decode cX7_isWholeRow 9 = .ok (.getfield 19, 3) := by decide +kernel
theorem dX7_isWholeRow_12 : decode cX7_isWholeRow 12 = .ok (.aload_n 0, 1) := by decide +kernel
theorem dX7_isWholeRow_13 : decode cX7_isWholeRow 13 = .ok (.getfield 22, 3) := by decide +kernel
theorem dX7_isWholeRow_16 : decode cX7_isWholeRow 16 = .ok (.isub, 1) := by decide +kernel
theorem dX7_isWholeRow_17 : decode cX7_isWholeRow 17 = .ok (.bipush 12, 2) := by decide +kernel
theorem dX7_isWholeRow_19 : decode cX7_isWholeRow 19 = .ok (.if_icmp .ne 7, 3) := by decide +kernel
theorem dX7_isWholeRow_22 : decode cX7_isWholeRow 22 = .ok (.iconst 1, 1) := by decide +kernel
theorem dX7_isWholeRow_23 : decode cX7_isWholeRow 23 = .ok (.goto 4, 3) := by decide +kernel
theorem dX7_isWholeRow_26 : decode cX7_isWholeRow 26 = .ok (.iconst 0, 1) := by decide +kernel
theorem dX7_isWholeRow_27 : decode cX7_isWholeRow 27 = .ok (.ireturn, 1) := by decide +kernel
theorem dX7_isSemicolon_0 : decode cX7_isSemicolon 0 = .ok (.aload_n 0, 1) := by decide +kernel
theorem dX7_isSemicolon_1 : decode cX7_isSemicolon 1 = .ok (.getfield 25, 3) := by decide +kernel
theorem dX7_isSemicolon_4 : decode cX7_isSemicolon 4 = .ok (.iconst 3, 1) := by decide +kernel
theorem dX7_isSemicolon_5 : decode cX7_isSemicolon 5 = .ok (.if_icmp .ne 21, 3) := by decide +kernel
theorem dX7_isSemicolon_8 : decode cX7_isSemicolon 8 = .ok (.aload_n 0, 1) := by decide +kernel
theorem dX7_isSemicolon_9 : decode cX7_isSemicolon 9 = .ok (.getfield 9, 3) := by decide +kernel
theorem dX7_isSemicolon_12 : decode cX7_isSemicolon 12 = .ok (.aload_n 0, 1) := by decide +kernel
theorem dX7_isSemicolon_13 : decode cX7_isSemicolon 13 = .ok (.getfield 22, 3) := by decide +kernel
theorem dX7_isSemicolon_16 : decode cX7_isSemicolon 16 = .ok (.iaload, 1) := by decide +kernel
theorem dX7_isSemicolon_17 : decode cX7_isSemicolon 17 = .ok (.bipush 59, 2) := by decide +kernel
theorem dX7_isSemicolon_19 : decode cX7_isSemicolon 19 = .ok (.if_icmp .ne 7, 3) := by decide +kernel
theorem dX7_isSemicolon_22 : decode cX7_isSemicolon 22 = .ok (.iconst 1, 1) := by decide +kernel
theorem dX7_isSemicolon_23 : decode cX7_isSemicolon 23 = .ok (.goto 4, 3) := by decide +kernel
theorem dX7_isSemicolon_26 : decode cX7_isSemicolon 26 = .ok (.iconst 0, 1) := by decide +kernel
theorem dX7_isSemicolon_27 : decode cX7_isSemicolon 27 = .ok (.ireturn, 1) := by decide +kernel
theorem dX7_value_0 : decode cX7_value 0 = .ok (.lconst 0, 1) := by decide +kernel
theorem dX7_value_1 : decode cX7_value 1 = .ok (.lstore_n 1, 1) := by decide +kernel
theorem dX7_value_2 : decode cX7_value 2 = .ok (.aload_n 0, 1) := by decide +kernel
theorem dX7_value_3 : decode cX7_value 3 = .ok (.getfield 22, 3) := by decide +kernel
theorem dX7_value_6 : decode cX7_value 6 = .ok (.istore_n 3, 1) := by decide +kernel
theorem dX7_value_7 : decode cX7_value 7 = .ok (.iload_n 3, 1) := by decide +kernel
theorem dX7_value_8 : decode cX7_value 8 = .ok (.aload_n 0, 1) := by decide +kernel
theorem dX7_value_9 : decode cX7_value 9 = .ok (.getfield 19, 3) := by decide +kernel
theorem dX7_value_12 : decode cX7_value 12 = .ok (.if_icmp .ge 27, 3) := by decide +kernel
theorem dX7_value_15 : decode cX7_value 15 = .ok (.ldc2_w 41, 3) := by decide +kernel
theorem dX7_value_18 : decode cX7_value 18 = .ok (.lload_n 1, 1) := by decide +kernel
theorem dX7_value_19 : decode cX7_value 19 = .ok (.lmul, 1) := by decide +kernel
theorem dX7_value_20 : decode cX7_value 20 = .ok (.aload_n 0, 1) := by decide +kernel
theorem dX7_value_21 : decode cX7_value 21 = .ok (.getfield 9, 3) := by decide +kernel
theorem dX7_value_24 : decode cX7_value 24 = .ok (.iload_n 3, 1) := by decide +kernel
theorem dX7_value_25 : decode cX7_value 25 = .ok (.iaload, 1) := by decide +kernel
theorem dX7_value_26 : decode cX7_value 26 = .ok (.i2l, 1) := by decide +kernel
theorem dX7_value_27 : decode cX7_value 27 = .ok (.ladd, 1) := by decide +kernel
theorem dX7_value_28 : decode cX7_value 28 = .ok (.ldc2_w 43, 3) := by decide +kernel
theorem dX7_value_31 : decode cX7_value 31 = .ok (.lsub, 1) := by decide +kernel
theorem dX7_value_32 : decode cX7_value 32 = .ok (.lstore_n 1, 1) := by decide +kernel
theorem dX7_value_33 : decode cX7_value 33 = .ok (.iinc 3 1, 3) := by decide +kernel
theorem dX7_value_36 : decode cX7_value 36 = .ok (.goto (-29), 3) := by decide +kernel
theorem dX7_value_39 : decode cX7_value 39 = .ok (.lload_n 1, 1) := by decide +kernel
theorem dX7_value_40 : decode cX7_value 40 = .ok (.lreturn, 1) := by decide +kernel
