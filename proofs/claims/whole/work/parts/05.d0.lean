theorem dX0_copyFrom_0 : decode cX0_copyFrom 0 = .ok (.aload_n 0, 1) := by decide +kernel
theorem dX0_copyFrom_1 : decode cX0_copyFrom 1 = .ok (.aload_n 1, 1) := by decide +kernel
theorem dX0_copyFrom_2 : decode cX0_copyFrom 2 = .ok (.getfield 40, 3) := by decide +kernel
theorem dX0_copyFrom_5 : decode cX0_copyFrom 5 = .ok (.putfield 40, 3) := by decide +kernel
theorem dX0_copyFrom_8 : decode cX0_copyFrom 8 = .ok (.aload_n 0, 1) := by decide +kernel
theorem dX0_copyFrom_9 : decode cX0_copyFrom 9 = .ok (.aload_n 1, 1) := by decide +kernel
theorem dX0_copyFrom_10 : decode cX0_copyFrom 10 = .ok (.getfield 44, 3) := by decide +kernel
theorem dX0_copyFrom_13 : decode cX0_copyFrom 13 = .ok (.putfield 44, 3) := by decide +kernel
theorem dX0_copyFrom_16 : decode cX0_copyFrom 16 = .ok (.aload_n 1, 1) := by decide +kernel
theorem dX0_copyFrom_17 : decode cX0_copyFrom 17 = .ok (.getfield 9, 3) := by decide +kernel
theorem dX0_copyFrom_20 : decode cX0_copyFrom 20 = .ok (.iconst 0, 1) := by decide +kernel
theorem dX0_copyFrom_21 : decode cX0_copyFrom 21 = .ok (.aload_n 0, 1) := by decide +kernel
theorem dX0_copyFrom_22 : decode cX0_copyFrom 22 = .ok (.getfield 9, 3) := by decide +kernel
theorem dX0_copyFrom_25 : decode cX0_copyFrom 25 = .ok (.iconst 0, 1) := by decide +kernel
theorem dX0_copyFrom_26 : decode cX0_copyFrom 26 = .ok (.bipush 40, 2) := by decide +kernel
theorem dX0_copyFrom_28 : decode cX0_copyFrom 28 = .ok (.invokestatic 47, 3) := by decide +kernel
theorem dX0_copyFrom_31 : decode cX0_copyFrom 31 = .ok (.aload_n 1, 1) := by decide +kernel
theorem dX0_copyFrom_32 : decode cX0_copyFrom 32 = .ok (.getfield 15, 3) := by decide +kernel
theorem dX0_copyFrom_35 : decode cX0_copyFrom 35 = .ok (.iconst 0, 1) := by decide +kernel
theorem dX0_copyFrom_36 : decode cX0_copyFrom 36 = .ok (.aload_n 0, 1) := by decide +kernel
theorem dX0_copyFrom_37 : decode cX0_copyFrom 37 = .ok (.getfield 15, 3) := by decide +kernel
theorem dX0_copyFrom_40 : decode cX0_copyFrom 40 = .ok (.iconst 0, 1) := by decide +kernel
theorem dX0_copyFrom_41 : decode cX0_copyFrom 41 = .ok (.bipush 40, 2) := by decide +kernel
theorem dX0_copyFrom_43 : decode cX0_copyFrom 43 = .ok (.invokestatic 47, 3) := by decide +kernel
theorem dX0_copyFrom_46 : decode cX0_copyFrom 46 = .ok (.aload_n 1, 1) := by decide +kernel
theorem dX0_copyFrom_47 : decode cX0_copyFrom 47 = .ok (.getfield 18, 3) := by decide +kernel
theorem dX0_copyFrom_50 : decode cX0_copyFrom 50 = .ok (.iconst 0, 1) := by decide +kernel
theorem dX0_copyFrom_51 : decode cX0_copyFrom 51 = .ok (.aload_n 0, 1) := by decide +kernel
theorem dX0_copyFrom_52 : decode cX0_copyFrom 52 = .ok (.getfield 18, 3) := by decide +kernel
theorem dX0_copyFrom_55 : decode cX0_copyFrom 55 = .ok (.iconst 0, 1) := by decide +kernel
theorem dX0_copyFrom_56 : decode cX0_copyFrom 56 = .ok (.bipush 40, 2) := by decide +kernel
theorem dX0_copyFrom_58 : decode cX0_copyFrom 58 = .ok (.invokestatic 47, 3) := by decide +kernel
theorem dX0_copyFrom_61 : decode cX0_copyFrom 61 = .ok (.aload_n 1, 1) := by decide +kernel
theorem dX0_copyFrom_62 : decode cX0_copyFrom 62 = .ok (.getfield 21, 3) := by decide +kernel
theorem dX0_copyFrom_65 : decode cX0_copyFrom 65 = .ok (.iconst 0, 1) := by decide +kernel
theorem dX0_copyFrom_66 : decode cX0_copyFrom 66 = .ok (.aload_n 0, 1) := by decide +kernel
theorem dX0_copyFrom_67 : decode cX0_copyFrom 67 = .ok (.getfield 21, 3) := by decide +kernel
theorem dX0_copyFrom_70 : decode cX0_copyFrom 70 = .ok (.iconst 0, 1) := by decide +kernel
theorem dX0_copyFrom_71 : decode cX0_copyFrom 71 = .ok (.bipush 40, 2) := by decide +kernel
theorem dX0_copyFrom_73 : decode cX0_copyFrom 73 = .ok (.invokestatic 47, 3) := by decide +kernel
theorem dX0_copyFrom_76 : decode cX0_copyFrom 76 = .ok (.aload_n 1, 1) := by decide +kernel
theorem dX0_copyFrom_77 : decode cX0_copyFrom 77 = .ok (.getfield 25, 3) := by decide +kernel
theorem dX0_copyFrom_80 : decode cX0_copyFrom 80 = .ok (.iconst 0, 1) := by decide +kernel
theorem dX0_copyFrom_81 : decode cX0_copyFrom 81 = .ok (.aload_n 0, 1) := by decide +kernel
theorem dX0_copyFrom_82 : decode cX0_copyFrom 82 = .ok (.getfield 25, 3) := by decide +kernel
theorem dX0_copyFrom_85 : decode cX0_copyFrom 85 = .ok (.iconst 0, 1) := by decide +kernel
theorem dX0_copyFrom_86 : decode cX0_copyFrom 86 = .ok (.bipush 40, 2) := by decide +kernel
theorem dX0_copyFrom_88 : decode cX0_copyFrom 88 = .ok (.invokestatic 47, 3) := by decide +kernel
theorem dX0_copyFrom_91 : decode cX0_copyFrom 91 = .ok (.aload_n 1, 1) := by decide +kernel
theorem dX0_copyFrom_92 : decode cX0_copyFrom 92 = .ok (.getfield 28, 3) := by decide +kernel
theorem dX0_copyFrom_95 : decode cX0_copyFrom 95 = .ok (.iconst 0, 1) := by decide +kernel
theorem dX0_copyFrom_96 : decode cX0_copyFrom 96 = .ok (.aload_n 0, 1) := by decide +kernel
theorem dX0_copyFrom_97 : decode cX0_copyFrom 97 = .ok (.getfield 28, 3) := by decide +kernel
theorem dX0_copyFrom_100 : decode cX0_copyFrom 100 = .ok (.iconst 0, 1) := by decide +kernel
theorem dX0_copyFrom_101 : decode cX0_copyFrom 101 = .ok (.iconst 3, 1) := by decide +kernel
theorem dX0_copyFrom_102 : decode cX0_copyFrom 102 = .ok (.invokestatic 47, 3) := by decide +kernel
theorem dX0_copyFrom_105 : decode cX0_copyFrom 105 = .ok (.aload_n 1, 1) := by decide +kernel
theorem dX0_copyFrom_106 : decode cX0_copyFrom 106 = .ok (.getfield 31, 3) := by decide +kernel
theorem dX0_copyFrom_109 : decode cX0_copyFrom 109 = .ok (.iconst 0, 1) := by decide +kernel
theorem dX0_copyFrom_110 : decode cX0_copyFrom 110 = .ok (.aload_n 0, 1) := by decide +kernel
theorem dX0_copyFrom_111 : decode cX0_copyFrom 111 = .ok (.getfield 31, 3) := by decide +kernel
theorem dX0_copyFrom_114 : decode cX0_copyFrom 114 = .ok (.iconst 0, 1) := by decide +kernel
theorem dX0_copyFrom_115 : decode cX0_copyFrom 115 = .ok (.iconst 4, 1) := by decide +kernel
theorem dX0_copyFrom_116 : decode cX0_copyFrom 116 = .ok (.invokestatic 47, 3) := by decide +kernel
theorem dX0_copyFrom_119 : decode cX0_copyFrom 119 = .ok (.aload_n 1, 1) := by decide +kernel
theorem dX0_copyFrom_120 : decode cX0_copyFrom 120 = .ok (.getfield 34, 3) := by decide +kernel
theorem dX0_copyFrom_123 : decode cX0_copyFrom 123 = .ok (.iconst 0, 1) := by decide +kernel
theorem dX0_copyFrom_124 : decode cX0_copyFrom 124 = .ok (.aload_n 0, 1) := by decide +kernel
theorem dX0_copyFrom_125 : decode cX0_copyFrom 125 = .ok (.getfield 34, 3) := by decide +kernel
theorem dX0_copyFrom_128 : decode cX0_copyFrom 128 = .ok (.iconst 0, 1) := by decide +kernel
theorem dX0_copyFrom_129 : decode cX0_copyFrom 129 = .ok (.bipush 6, 2) := by decide +kernel
theorem dX0_copyFrom_131 : decode cX0_copyFrom 131 = .ok (.invokestatic 47, 3) := by decide +kernel
theorem dX0_copyFrom_134 : decode cX0_copyFrom 134 = .ok (.aload_n 1, 1) := by decide +kernel
theorem dX0_copyFrom_135 : decode cX0_copyFrom 135 = .ok (.getfield 37, 3) := by decide +kernel
theorem dX0_copyFrom_138 : decode cX0_copyFrom 138 = .ok (.iconst 0, 1) := by decide +kernel
theorem dX0_copyFrom_139 : decode cX0_copyFrom 139 = .ok (.aload_n 0, 1) := by decide +kernel
theorem dX0_copyFrom_140 : decode cX0_copyFrom 140 = .ok (.getfield 37, 3) := by decide +kernel
theorem dX0_copyFrom_143 : decode cX0_copyFrom 143 = .ok (.iconst 0, 1) := by decide +kernel
theorem dX0_copyFrom_144 : decode cX0_copyFrom 144 = .ok (.sipush 240, 3) := by decide +kernel
theorem dX0_copyFrom_147 : decode cX0_copyFrom 147 = .ok (.invokestatic 47, 3) := by decide +kernel
theorem dX0_copyFrom_150 : decode cX0_copyFrom 150 = .ok (.return_, 1) := by decide +kernel
theorem dX0_hasCard_0 : decode cX0_hasCard 0 = .ok (.iload_n 1, 1) := by decide +kernel
theorem dX0_hasCard_1 : decode cX0_hasCard 1 = .ok (.ifCond .lt 15, 3) := by decide +kernel
theorem dX0_hasCard_4 : decode cX0_hasCard 4 = .ok (.iload_n 1, 1) := by decide +kernel
theorem dX0_hasCard_5 : decode cX0_hasCard 5 = .ok (.aload_n 0, 1) := by decide +kernel
theorem dX0_hasCard_6 : decode cX0_hasCard 6 = .ok (.getfield 40, 3) := by decide +kernel
theorem dX0_hasCard_9 : decode cX0_hasCard 9 = .ok (.if_icmp .ge 7, 3) := by decide +kernel
theorem dX0_hasCard_12 : decode cX0_hasCard 12 = .ok (.iconst 1, 1) := by decide +kernel
theorem dX0_hasCard_13 : decode cX0_hasCard 13 = .ok (.goto 4, 3) := by decide +kernel
theorem dX0_hasCard_16 : decode cX0_hasCard 16 = .ok (.iconst 0, 1) := by decide +kernel
theorem dX0_hasCard_17 : decode cX0_hasCard 17 = .ok (.ireturn, 1) := by decide +kernel
theorem dX0_cardsOf_0 : decode cX0_cardsOf 0 = .ok (.iconst 0, 1) := by decide +kernel
theorem dX0_cardsOf_1 : decode cX0_cardsOf 1 = .ok (.istore_n 3, 1) := by decide +kernel
theorem dX0_cardsOf_2 : decode cX0_cardsOf 2 = .ok (.iconst 0, 1) := by decide +kernel
theorem dX0_cardsOf_3 : decode cX0_cardsOf 3 = .ok (.istore 4, 2) := by decide +kernel
theorem dX0_cardsOf_5 : decode cX0_cardsOf 5 = .ok (.iload 4, 2) := by decide +kernel
theorem dX0_cardsOf_7 : decode cX0_cardsOf 7 = .ok (.iload_n 2, 1) := by decide +kernel
theorem dX0_cardsOf_8 : decode cX0_cardsOf 8 = .ok (.if_icmp .ge 32, 3) := by decide +kernel
theorem dX0_cardsOf_11 : decode cX0_cardsOf 11 = .ok (.iload 4, 2) := by decide +kernel
theorem dX0_cardsOf_13 : decode cX0_cardsOf 13 = .ok (.aload_n 0, 1) := by decide +kernel
theorem dX0_cardsOf_14 : decode cX0_cardsOf 14 = .ok (.getfield 40, 3) := by decide +kernel
theorem dX0_cardsOf_17 : decode cX0_cardsOf 17 = .ok (.if_icmp .ge 23, 3) := by decide +kernel
theorem dX0_cardsOf_20 : decode cX0_cardsOf 20 = .ok (.aload_n 0, 1) := by decide +kernel
theorem dX0_cardsOf_21 : decode cX0_cardsOf 21 = .ok (.getfield 9, 3) := by decide +kernel
theorem dX0_cardsOf_24 : decode cX0_cardsOf 24 = .ok (.iload 4, 2) := by decide +kernel
theorem dX0_cardsOf_26 : decode cX0_cardsOf 26 = .ok (.iaload, 1) := by decide +kernel
theorem dX0_cardsOf_27 : decode cX0_cardsOf 27 = .ok (.iload_n 1, 1) := by decide +kernel
theorem dX0_cardsOf_28 : decode cX0_cardsOf 28 = .ok (.if_icmp .ne 6, 3) := by decide +kernel
theorem dX0_cardsOf_31 : decode cX0_cardsOf 31 = .ok (.iinc 3 1, 3) := by decide +kernel
theorem dX0_cardsOf_34 : decode cX0_cardsOf 34 = .ok (.iinc 4 1, 3) := by decide +kernel
theorem dX0_cardsOf_37 : decode cX0_cardsOf 37 = .ok (.goto (-32), 3) := by decide +kernel
theorem dX0_cardsOf_40 : decode cX0_cardsOf 40 = .ok (.iload_n 3, 1) := by decide +kernel
theorem dX0_cardsOf_41 : decode cX0_cardsOf 41 = .ok (.ireturn, 1) := by decide +kernel
set_option maxRecDepth 20000 in
theorem ggX0_outcomesIn_X0_hasCard : GoodIn wsX0_outcomesIn wsX0_hasCard := goodIn_r _ [11, 12, 13, 14, 15, 16, 17, 18, 19, 20, 21, 22, 23] (by decide +kernel) (by decide +kernel)
set_option maxRecDepth 20000 in
theorem gX0_outcomesIn_X0_hasCard : GoodIn wsX0_outcomesIn (wsV RX0 57 RX0 yX0_hasCard wsX0_hasCard) := goodIn_app (goodIn_of _ (by decide +kernel)) ggX0_outcomesIn_X0_hasCard
