theorem dX0_init_0 : decode cX0_init 0 = .ok (.aload_n 0, 1) := by decide +kernel
theorem dX0_init_1 : decode cX0_init 1 = .ok (.invokespecial 3, 3) := by decide +kernel
theorem dX0_init_4 : decode cX0_init 4 = .ok (.aload_n 0, 1) := by decide +kernel
theorem dX0_init_5 : decode cX0_init 5 = .ok (.bipush 100, 2) := by decide +kernel
theorem dX0_init_7 : decode cX0_init 7 = .ok (.newarray .int, 2) := by decide +kernel
theorem dX0_init_9 : decode cX0_init 9 = .ok (.putfield 9, 3) := by decide +kernel
theorem dX0_init_12 : decode cX0_init 12 = .ok (.aload_n 0, 1) := by decide +kernel
theorem dX0_init_13 : decode cX0_init 13 = .ok (.sipush 10240, 3) := by decide +kernel
theorem dX0_init_16 : decode cX0_init 16 = .ok (.newarray .int, 2) := by decide +kernel
theorem dX0_init_18 : decode cX0_init 18 = .ok (.putfield 15, 3) := by decide +kernel
theorem dX0_init_21 : decode cX0_init 21 = .ok (.aload_n 0, 1) := by decide +kernel
theorem dX0_init_22 : decode cX0_init 22 = .ok (.sipush 1024, 3) := by decide +kernel
theorem dX0_init_25 : decode cX0_init 25 = .ok (.newarray .int, 2) := by decide +kernel
theorem dX0_init_27 : decode cX0_init 27 = .ok (.putfield 18, 3) := by decide +kernel
theorem dX0_init_30 : decode cX0_init 30 = .ok (.aload_n 0, 1) := by decide +kernel
theorem dX0_init_31 : decode cX0_init 31 = .ok (.sipush 1024, 3) := by decide +kernel
theorem dX0_init_34 : decode cX0_init 34 = .ok (.newarray .int, 2) := by decide +kernel
theorem dX0_init_36 : decode cX0_init 36 = .ok (.putfield 21, 3) := by decide +kernel
theorem dX0_init_39 : decode cX0_init 39 = .ok (.aload_n 0, 1) := by decide +kernel
theorem dX0_init_40 : decode cX0_init 40 = .ok (.sipush 1024, 3) := by decide +kernel
theorem dX0_init_43 : decode cX0_init 43 = .ok (.newarray .int, 2) := by decide +kernel
theorem dX0_init_45 : decode cX0_init 45 = .ok (.putfield 24, 3) := by decide +kernel
theorem dX0_init_48 : decode cX0_init 48 = .ok (.return_, 1) := by decide +kernel
set_option maxRecDepth 20000 in
theorem ggX0_rank_X0_measureBorders : GoodIn wsX0_rank wsX0_measureBorders := goodIn_r _ [9, 10, 11, 12, 13, 14, 15, 16, 17, 18, 40, 41, 42, 43, 44, 45, 46, 34, 35, 36, 37, 38, 39] rfl (by decide +kernel)
set_option maxRecDepth 20000 in
theorem gX0_rank_X0_measureBorders : GoodIn wsX0_rank (wsV RX0 33 RX0 yX0_measureBorders wsX0_measureBorders) := goodIn_app (goodIn_r _ [5, 6, 7, 8] rfl (by decide +kernel)) ggX0_rank_X0_measureBorders
set_option maxRecDepth 20000 in
theorem ggX0_rank_X0_rankSet : GoodIn wsX0_rank wsX0_rankSet := goodIn_r _ [22, 4, 23, 24, 25, 26, 27, 28, 8, 29, 10, 30, 31, 32, 33, 40, 41, 42, 43, 44, 45, 46] rfl (by decide +kernel)
set_option maxRecDepth 20000 in
theorem gX0_rank_X0_rankSet : GoodIn wsX0_rank (wsV RX0 37 RX0 yX0_rankSet wsX0_rankSet) := goodIn_app (goodIn_r _ [19, 20, 21, 8] rfl (by decide +kernel)) ggX0_rank_X0_rankSet
set_option maxRecDepth 20000 in
theorem ggX0_rank_X8_isIn : GoodIn wsX0_rank wsX8_isIn := goodIn_r _ [25] rfl (by decide +kernel)
set_option maxRecDepth 20000 in
theorem gX0_rank_X8_isIn_n47 : GoodIn wsX0_rank (wsX8_isIn) := ggX0_rank_X8_isIn
theorem dX0_rank_0 : decode cX0_rank 0 = .ok (.aload_n 1, 1) := by decide +kernel
theorem dX0_rank_1 : decode cX0_rank 1 = .ok (.getfield 27, 3) := by decide +kernel
theorem dX0_rank_4 : decode cX0_rank 4 = .ok (.sipush 1023, 3) := by decide +kernel
theorem dX0_rank_7 : decode cX0_rank 7 = .ok (.iand, 1) := by decide +kernel
theorem dX0_rank_8 : decode cX0_rank 8 = .ok (.istore_n 2, 1) := by decide +kernel
theorem dX0_rank_9 : decode cX0_rank 9 = .ok (.aload_n 0, 1) := by decide +kernel
theorem dX0_rank_10 : decode cX0_rank 10 = .ok (.aload_n 1, 1) := by decide +kernel
theorem dX0_rank_11 : decode cX0_rank 11 = .ok (.invokevirtual 33, 3) := by decide +kernel
theorem dX0_rank_14 : decode cX0_rank 14 = .ok (.iconst 1, 1) := by decide +kernel
theorem dX0_rank_15 : decode cX0_rank 15 = .ok (.istore_n 3, 1) := by decide +kernel
theorem dX0_rank_16 : decode cX0_rank 16 = .ok (.iload_n 3, 1) := by decide +kernel
theorem dX0_rank_17 : decode cX0_rank 17 = .ok (.iload_n 2, 1) := by decide +kernel
theorem dX0_rank_18 : decode cX0_rank 18 = .ok (.if_icmp .gt 22, 3) := by decide +kernel
theorem dX0_rank_21 : decode cX0_rank 21 = .ok (.iload_n 3, 1) := by decide +kernel
theorem dX0_rank_22 : decode cX0_rank 22 = .ok (.iload_n 2, 1) := by decide +kernel
theorem dX0_rank_23 : decode cX0_rank 23 = .ok (.iconst (-1), 1) := by decide +kernel
theorem dX0_rank_24 : decode cX0_rank 24 = .ok (.ixor, 1) := by decide +kernel
theorem dX0_rank_25 : decode cX0_rank 25 = .ok (.iand, 1) := by decide +kernel
theorem dX0_rank_26 : decode cX0_rank 26 = .ok (.ifCond .ne 8, 3) := by decide +kernel
theorem dX0_rank_29 : decode cX0_rank 29 = .ok (.aload_n 0, 1) := by decide +kernel
theorem dX0_rank_30 : decode cX0_rank 30 = .ok (.iload_n 3, 1) := by decide +kernel
theorem dX0_rank_31 : decode cX0_rank 31 = .ok (.invokevirtual 37, 3) := by decide +kernel
theorem dX0_rank_34 : decode cX0_rank 34 = .ok (.iinc 3 1, 3) := by decide +kernel
theorem dX0_rank_37 : decode cX0_rank 37 = .ok (.goto (-21), 3) := by decide +kernel
theorem dX0_rank_40 : decode cX0_rank 40 = .ok (.aload_n 0, 1) := by decide +kernel
theorem dX0_rank_41 : decode cX0_rank 41 = .ok (.iconst 0, 1) := by decide +kernel
theorem dX0_rank_42 : decode cX0_rank 42 = .ok (.putfield 41, 3) := by decide +kernel
theorem dX0_rank_45 : decode cX0_rank 45 = .ok (.aload_n 0, 1) := by decide +kernel
theorem dX0_rank_46 : decode cX0_rank 46 = .ok (.bipush (-6), 2) := by decide +kernel
theorem dX0_rank_48 : decode cX0_rank 48 = .ok (.putfield 44, 3) := by decide +kernel
theorem dX0_rank_51 : decode cX0_rank 51 = .ok (.iconst 0, 1) := by decide +kernel
theorem dX0_rank_52 : decode cX0_rank 52 = .ok (.istore_n 3, 1) := by decide +kernel
theorem dX0_rank_53 : decode cX0_rank 53 = .ok (.iload_n 3, 1) := by decide +kernel
theorem dX0_rank_54 : decode cX0_rank 54 = .ok (.bipush 10, 2) := by decide +kernel
theorem dX0_rank_56 : decode cX0_rank 56 = .ok (.if_icmp .ge 64, 3) := by decide +kernel
theorem dX0_rank_59 : decode cX0_rank 59 = .ok (.iload_n 2, 1) := by decide +kernel
theorem dX0_rank_60 : decode cX0_rank 60 = .ok (.iload_n 3, 1) := by decide +kernel
theorem dX0_rank_61 : decode cX0_rank 61 = .ok (.invokestatic 47, 3) := by decide +kernel
theorem dX0_rank_64 : decode cX0_rank 64 = .ok (.ifCond .eq 50, 3) := by decide +kernel
theorem dX0_rank_67 : decode cX0_rank 67 = .ok (.aload_n 0, 1) := by decide +kernel
theorem dX0_rank_68 : decode cX0_rank 68 = .ok (.getfield 44, 3) := by decide +kernel
theorem dX0_rank_71 : decode cX0_rank 71 = .ok (.bipush (-6), 2) := by decide +kernel
theorem dX0_rank_73 : decode cX0_rank 73 = .ok (.if_icmp .eq 21, 3) := by decide +kernel
theorem dX0_rank_76 : decode cX0_rank 76 = .ok (.aload_n 0, 1) := by decide +kernel
theorem dX0_rank_77 : decode cX0_rank 77 = .ok (.getfield 15, 3) := by decide +kernel
theorem dX0_rank_80 : decode cX0_rank 80 = .ok (.iload_n 2, 1) := by decide +kernel
theorem dX0_rank_81 : decode cX0_rank 81 = .ok (.bipush 10, 2) := by decide +kernel
theorem dX0_rank_83 : decode cX0_rank 83 = .ok (.imul, 1) := by decide +kernel
theorem dX0_rank_84 : decode cX0_rank 84 = .ok (.iload_n 3, 1) := by decide +kernel
theorem dX0_rank_85 : decode cX0_rank 85 = .ok (.iadd, 1) := by decide +kernel
theorem dX0_rank_86 : decode cX0_rank 86 = .ok (.iaload, 1) := by decide +kernel
theorem dX0_rank_87 : decode cX0_rank 87 = .ok (.aload_n 0, 1) := by decide +kernel
theorem dX0_rank_88 : decode cX0_rank 88 = .ok (.getfield 41, 3) := by decide +kernel
theorem dX0_rank_91 : decode cX0_rank 91 = .ok (.if_icmp .ge 23, 3) := by decide +kernel
theorem dX0_rank_94 : decode cX0_rank 94 = .ok (.aload_n 0, 1) := by decide +kernel
theorem dX0_rank_95 : decode cX0_rank 95 = .ok (.iload_n 3, 1) := by decide +kernel
theorem dX0_rank_96 : decode cX0_rank 96 = .ok (.putfield 44, 3) := by decide +kernel
theorem dX0_rank_99 : decode cX0_rank 99 = .ok (.aload_n 0, 1) := by decide +kernel
theorem dX0_rank_100 : decode cX0_rank 100 = .ok (.aload_n 0, 1) := by decide +kernel
theorem dX0_rank_101 : decode cX0_rank 101 = .ok (.getfield 15, 3) := by decide +kernel
theorem dX0_rank_104 : decode cX0_rank 104 = .ok (.iload_n 2, 1) := by decide +kernel
theorem dX0_rank_105 : decode cX0_rank 105 = .ok (.bipush 10, 2) := by decide +kernel
theorem dX0_rank_107 : decode cX0_rank 107 = .ok (.imul, 1) := by decide +kernel
theorem dX0_rank_108 : decode cX0_rank 108 = .ok (.iload_n 3, 1) := by decide +kernel
theorem dX0_rank_109 : decode cX0_rank 109 = .ok (.iadd, 1) := by decide +kernel
theorem dX0_rank_110 : decode cX0_rank 110 = .ok (.iaload, 1) := by decide +kernel
theorem dX0_rank_111 : decode cX0_rank 111 = .ok (.putfield 41, 3) := by decide +kernel
theorem dX0_rank_114 : decode cX0_rank 114 = .ok (.iinc 3 1, 3) := by decide +kernel
theorem dX0_rank_117 : decode cX0_rank 117 = .ok (.goto (-64), 3) := by decide +kernel
theorem dX0_rank_120 : decode cX0_rank 120 = .ok (.return_, 1) := by decide +kernel
set_option maxRecDepth 20000 in
theorem ggX0_measureBorders_J6_bitCount_0f7a4 : GoodIn wsX0_measureBorders wsJ6_bitCount_0f7a4 := goodIn_r _ [6, 7, 8, 9] rfl (by decide +kernel)
set_option maxRecDepth 20000 in
theorem gX0_measureBorders_J6_bitCount_0f7a4 : GoodIn wsX0_measureBorders (va_wsS RX0 54 yJ6_bitCount_0f7a4 wsJ6_bitCount_0f7a4) := goodIn_app (goodIn_r _ [3, 4, 5] rfl (by decide +kernel)) ggX0_measureBorders_J6_bitCount_0f7a4
theorem dX0_measureBorders_0 : decode cX0_measureBorders 0 = .ok (.iconst 0, 1) := by decide +kernel
theorem dX0_measureBorders_1 : decode cX0_measureBorders 1 = .ok (.istore_n 2, 1) := by decide +kernel
theorem dX0_measureBorders_2 : decode cX0_measureBorders 2 = .ok (.iload_n 2, 1) := by decide +kernel
theorem dX0_measureBorders_3 : decode cX0_measureBorders 3 = .ok (.bipush 10, 2) := by decide +kernel
theorem dX0_measureBorders_5 : decode cX0_measureBorders 5 = .ok (.if_icmp .ge 50, 3) := by decide +kernel
theorem dX0_measureBorders_8 : decode cX0_measureBorders 8 = .ok (.iconst 0, 1) := by decide +kernel
theorem dX0_measureBorders_9 : decode cX0_measureBorders 9 = .ok (.istore_n 3, 1) := by decide +kernel
theorem dX0_measureBorders_10 : decode cX0_measureBorders 10 = .ok (.iload_n 3, 1) := by decide +kernel
theorem dX0_measureBorders_11 : decode cX0_measureBorders 11 = .ok (.bipush 10, 2) := by decide +kernel
theorem dX0_measureBorders_13 : decode cX0_measureBorders 13 = .ok (.if_icmp .ge 36, 3) := by decide +kernel
theorem dX0_measureBorders_16 : decode cX0_measureBorders 16 = .ok (.aload_n 0, 1) := by decide +kernel
theorem dX0_measureBorders_17 : decode cX0_measureBorders 17 = .ok (.getfield 9, 3) := by decide +kernel
theorem dX0_measureBorders_20 : decode cX0_measureBorders 20 = .ok (.iload_n 2, 1) := by decide +kernel
theorem dX0_measureBorders_21 : decode cX0_measureBorders 21 = .ok (.bipush 10, 2) := by decide +kernel
theorem dX0_measureBorders_23 : decode cX0_measureBorders 23 = .ok (.imul, 1) := by decide +kernel
theorem dX0_measureBorders_24 : decode cX0_measureBorders 24 = .ok (.iload_n 3, 1) := by decide +kernel
theorem dX0_measureBorders_25 : decode cX0_measureBorders 25 = .ok (.iadd, 1) := by decide +kernel
theorem dX0_measureBorders_26 : decode cX0_measureBorders 26 = .ok (.aload_n 1, 1) := by decide +kernel
theorem dX0_measureBorders_27 : decode cX0_measureBorders 27 = .ok (.getfield 51, 3) := by decide +kernel
theorem dX0_measureBorders_30 : decode cX0_measureBorders 30 = .ok (.iload_n 2, 1) := by decide +kernel
theorem dX0_measureBorders_31 : decode cX0_measureBorders 31 = .ok (.iaload, 1) := by decide +kernel
theorem dX0_measureBorders_32 : decode cX0_measureBorders 32 = .ok (.aload_n 1, 1) := by decide +kernel
theorem dX0_measureBorders_33 : decode cX0_measureBorders 33 = .ok (.getfield 51, 3) := by decide +kernel
theorem dX0_measureBorders_36 : decode cX0_measureBorders 36 = .ok (.iload_n 3, 1) := by decide +kernel
theorem dX0_measureBorders_37 : decode cX0_measureBorders 37 = .ok (.iaload, 1) := by decide +kernel
theorem dX0_measureBorders_38 : decode cX0_measureBorders 38 = .ok (.ixor, 1) := by decide +kernel
theorem dX0_measureBorders_39 : decode cX0_measureBorders 39 = .ok (.invokestatic 54, 3) := by decide +kernel
theorem dX0_measureBorders_42 : decode cX0_measureBorders 42 = .ok (.iastore, 1) := by decide +kernel
theorem dX0_measureBorders_43 : decode cX0_measureBorders 43 = .ok (.iinc 3 1, 3) := by decide +kernel
theorem dX0_measureBorders_46 : decode cX0_measureBorders 46 = .ok (.goto (-36), 3) := by decide +kernel
theorem dX0_measureBorders_49 : decode cX0_measureBorders 49 = .ok (.iinc 2 1, 3) := by decide +kernel
theorem dX0_measureBorders_52 : decode cX0_measureBorders 52 = .ok (.goto (-50), 3) := by decide +kernel
theorem dX0_measureBorders_55 : decode cX0_measureBorders 55 = .ok (.return_, 1) := by decide +kernel
set_option maxRecDepth 20000 in
theorem ggX0_rankSet_X8_isIn : GoodIn wsX0_rankSet wsX8_isIn := goodIn_r _ [4] rfl (by decide +kernel)
set_option maxRecDepth 20000 in
theorem gX0_rankSet_X8_isIn_n47 : GoodIn wsX0_rankSet (wsX8_isIn) := ggX0_rankSet_X8_isIn
set_option maxRecDepth 20000 in
theorem ggX0_rankSet_X0_leastRow : GoodIn wsX0_rankSet wsX0_leastRow := goodIn_r _ [9, 1, 10, 11, 12, 13, 14, 2, 3, 4, 15, 16, 17, 18, 19, 20, 21] rfl (by decide +kernel)
set_option maxRecDepth 20000 in
theorem gX0_rankSet_X0_leastRow : GoodIn wsX0_rankSet (wsV RX0 60 RX0 yX0_leastRow wsX0_leastRow) := goodIn_app (goodIn_r _ [5, 6, 7, 8] rfl (by decide +kernel)) ggX0_rankSet_X0_leastRow
theorem dX0_rankSet_0 : decode cX0_rankSet 0 = .ok (.iconst 0, 1) := by decide +kernel
theorem dX0_rankSet_1 : decode cX0_rankSet 1 = .ok (.istore_n 2, 1) := by decide +kernel
theorem dX0_rankSet_2 : decode cX0_rankSet 2 = .ok (.iload_n 2, 1) := by decide +kernel
theorem dX0_rankSet_3 : decode cX0_rankSet 3 = .ok (.bipush 10, 2) := by decide +kernel
theorem dX0_rankSet_5 : decode cX0_rankSet 5 = .ok (.if_icmp .ge 40, 3) := by decide +kernel
theorem dX0_rankSet_8 : decode cX0_rankSet 8 = .ok (.iload_n 1, 1) := by decide +kernel
theorem dX0_rankSet_9 : decode cX0_rankSet 9 = .ok (.iload_n 2, 1) := by decide +kernel
theorem dX0_rankSet_10 : decode cX0_rankSet 10 = .ok (.invokestatic 47, 3) := by decide +kernel
theorem dX0_rankSet_13 : decode cX0_rankSet 13 = .ok (.ifCond .eq 26, 3) := by decide +kernel
theorem dX0_rankSet_16 : decode cX0_rankSet 16 = .ok (.aload_n 0, 1) := by decide +kernel
theorem dX0_rankSet_17 : decode cX0_rankSet 17 = .ok (.getfield 15, 3) := by decide +kernel
theorem dX0_rankSet_20 : decode cX0_rankSet 20 = .ok (.iload_n 1, 1) := by decide +kernel
theorem dX0_rankSet_21 : decode cX0_rankSet 21 = .ok (.bipush 10, 2) := by decide +kernel
theorem dX0_rankSet_23 : decode cX0_rankSet 23 = .ok (.imul, 1) := by decide +kernel
theorem dX0_rankSet_24 : decode cX0_rankSet 24 = .ok (.iload_n 2, 1) := by decide +kernel
theorem dX0_rankSet_25 : decode cX0_rankSet 25 = .ok (.iadd, 1) := by decide +kernel
theorem dX0_rankSet_26 : decode cX0_rankSet 26 = .ok (.aload_n 0, 1) := by decide +kernel
theorem dX0_rankSet_27 : decode cX0_rankSet 27 = .ok (.iload_n 1, 1) := by decide +kernel
theorem dX0_rankSet_28 : decode cX0_rankSet 28 = .ok (.iconst 1, 1) := by decide +kernel
theorem dX0_rankSet_29 : decode cX0_rankSet 29 = .ok (.iload_n 2, 1) := by decide +kernel
theorem dX0_rankSet_30 : decode cX0_rankSet 30 = .ok (.ishl, 1) := by decide +kernel
theorem dX0_rankSet_31 : decode cX0_rankSet 31 = .ok (.iconst (-1), 1) := by decide +kernel
theorem dX0_rankSet_32 : decode cX0_rankSet 32 = .ok (.ixor, 1) := by decide +kernel
theorem dX0_rankSet_33 : decode cX0_rankSet 33 = .ok (.iand, 1) := by decide +kernel
theorem dX0_rankSet_34 : decode cX0_rankSet 34 = .ok (.iload_n 2, 1) := by decide +kernel
theorem dX0_rankSet_35 : decode cX0_rankSet 35 = .ok (.invokevirtual 60, 3) := by decide +kernel
theorem dX0_rankSet_38 : decode cX0_rankSet 38 = .ok (.iastore, 1) := by decide +kernel
theorem dX0_rankSet_39 : decode cX0_rankSet 39 = .ok (.iinc 2 1, 3) := by decide +kernel
theorem dX0_rankSet_42 : decode cX0_rankSet 42 = .ok (.goto (-40), 3) := by decide +kernel
theorem dX0_rankSet_45 : decode cX0_rankSet 45 = .ok (.return_, 1) := by decide +kernel
set_option maxRecDepth 20000 in
theorem ggX0_leastRow_X8_isIn : GoodIn wsX0_leastRow wsX8_isIn := goodIn_r _ [9] rfl (by decide +kernel)
set_option maxRecDepth 20000 in
theorem gX0_leastRow_X8_isIn_n47 : GoodIn wsX0_leastRow (wsX8_isIn) := ggX0_leastRow_X8_isIn
theorem dX0_leastRow_0 : decode cX0_leastRow 0 = .ok (.iload_n 1, 1) := by decide +kernel
theorem dX0_leastRow_1 : decode cX0_leastRow 1 = .ok (.ifCond .ne 5, 3) := by decide +kernel
theorem dX0_leastRow_4 : decode cX0_leastRow 4 = .ok (.iconst 0, 1) := by decide +kernel
theorem dX0_leastRow_5 : decode cX0_leastRow 5 = .ok (.ireturn, 1) := by decide +kernel
theorem dX0_leastRow_6 : decode cX0_leastRow 6 = .ok (.bipush (-6), 2) := by decide +kernel
theorem dX0_leastRow_8 : decode cX0_leastRow 8 = .ok (.istore_n 3, 1) := by decide +kernel
theorem dX0_leastRow_9 : decode cX0_leastRow 9 = .ok (.iconst 0, 1) := by decide +kernel
theorem dX0_leastRow_10 : decode cX0_leastRow 10 = .ok (.istore 4, 2) := by decide +kernel
theorem dX0_leastRow_12 : decode cX0_leastRow 12 = .ok (.iload 4, 2) := by decide +kernel
theorem dX0_leastRow_14 : decode cX0_leastRow 14 = .ok (.bipush 10, 2) := by decide +kernel
theorem dX0_leastRow_16 : decode cX0_leastRow 16 = .ok (.if_icmp .ge 63, 3) := by decide +kernel
theorem dX0_leastRow_19 : decode cX0_leastRow 19 = .ok (.iload_n 1, 1) := by decide +kernel
theorem dX0_leastRow_20 : decode cX0_leastRow 20 = .ok (.iload 4, 2) := by decide +kernel
theorem dX0_leastRow_22 : decode cX0_leastRow 22 = .ok (.invokestatic 47, 3) := by decide +kernel
theorem dX0_leastRow_25 : decode cX0_leastRow 25 = .ok (.ifCond .eq 48, 3) := by decide +kernel
theorem dX0_leastRow_28 : decode cX0_leastRow 28 = .ok (.aload_n 0, 1) := by decide +kernel
theorem dX0_leastRow_29 : decode cX0_leastRow 29 = .ok (.getfield 15, 3) := by decide +kernel
theorem dX0_leastRow_32 : decode cX0_leastRow 32 = .ok (.iload_n 1, 1) := by decide +kernel
theorem dX0_leastRow_33 : decode cX0_leastRow 33 = .ok (.bipush 10, 2) := by decide +kernel
theorem dX0_leastRow_35 : decode cX0_leastRow 35 = .ok (.imul, 1) := by decide +kernel
theorem dX0_leastRow_36 : decode cX0_leastRow 36 = .ok (.iload 4, 2) := by decide +kernel
theorem dX0_leastRow_38 : decode cX0_leastRow 38 = .ok (.iadd, 1) := by decide +kernel
theorem dX0_leastRow_39 : decode cX0_leastRow 39 = .ok (.iaload, 1) := by decide +kernel
theorem dX0_leastRow_40 : decode cX0_leastRow 40 = .ok (.aload_n 0, 1) := by decide +kernel
theorem dX0_leastRow_41 : decode cX0_leastRow 41 = .ok (.getfield 9, 3) := by decide +kernel
theorem dX0_leastRow_44 : decode cX0_leastRow 44 = .ok (.iload 4, 2) := by decide +kernel
theorem dX0_leastRow_46 : decode cX0_leastRow 46 = .ok (.bipush 10, 2) := by decide +kernel
theorem dX0_leastRow_48 : decode cX0_leastRow 48 = .ok (.imul, 1) := by decide +kernel
theorem dX0_leastRow_49 : decode cX0_leastRow 49 = .ok (.iload_n 2, 1) := by decide +kernel
theorem dX0_leastRow_50 : decode cX0_leastRow 50 = .ok (.iadd, 1) := by decide +kernel
theorem dX0_leastRow_51 : decode cX0_leastRow 51 = .ok (.iaload, 1) := by decide +kernel
theorem dX0_leastRow_52 : decode cX0_leastRow 52 = .ok (.iadd, 1) := by decide +kernel
theorem dX0_leastRow_53 : decode cX0_leastRow 53 = .ok (.istore 5, 2) := by decide +kernel
theorem dX0_leastRow_55 : decode cX0_leastRow 55 = .ok (.iload_n 3, 1) := by decide +kernel
theorem dX0_leastRow_56 : decode cX0_leastRow 56 = .ok (.bipush (-6), 2) := by decide +kernel
theorem dX0_leastRow_58 : decode cX0_leastRow 58 = .ok (.if_icmp .ne 8, 3) := by decide +kernel
theorem dX0_leastRow_61 : decode cX0_leastRow 61 = .ok (.iload 5, 2) := by decide +kernel
theorem dX0_leastRow_63 : decode cX0_leastRow 63 = .ok (.goto 9, 3) := by decide +kernel
theorem dX0_leastRow_66 : decode cX0_leastRow 66 = .ok (.iload_n 3, 1) := by decide +kernel
theorem dX0_leastRow_67 : decode cX0_leastRow 67 = .ok (.iload 5, 2) := by decide +kernel
theorem dX0_leastRow_69 : decode cX0_leastRow 69 = .ok (.invokestatic 64, 3) := by decide +kernel
theorem dX0_leastRow_72 : decode cX0_leastRow 72 = .ok (.istore_n 3, 1) := by decide +kernel
theorem dX0_leastRow_73 : decode cX0_leastRow 73 = .ok (.iinc 4 1, 3) := by decide +kernel
theorem dX0_leastRow_76 : decode cX0_leastRow 76 = .ok (.goto (-64), 3) := by decide +kernel
theorem dX0_leastRow_79 : decode cX0_leastRow 79 = .ok (.iload_n 3, 1) := by decide +kernel
theorem dX0_leastRow_80 : decode cX0_leastRow 80 = .ok (.ireturn, 1) := by decide +kernel
set_option maxRecDepth 20000 in
theorem ggX0_mostParishes_X8_isIn : GoodIn wsX0_mostParishes wsX8_isIn := goodIn_r _ [5] rfl (by decide +kernel)
set_option maxRecDepth 20000 in
theorem gX0_mostParishes_X8_isIn_n47 : GoodIn wsX0_mostParishes (wsX8_isIn) := ggX0_mostParishes_X8_isIn
set_option maxRecDepth 20000 in
theorem ggX0_mostParishes_X0_mostUnions : GoodIn wsX0_mostParishes wsX0_mostUnions := goodIn_r _ [10, 11, 12, 1, 3, 4, 5, 13, 14, 15, 9, 16, 17, 18, 19, 20, 21, 22, 23, 24, 31, 32, 33, 34, 35, 36, 37, 25, 26, 27, 28, 29, 30] rfl (by decide +kernel)
set_option maxRecDepth 20000 in
theorem gX0_mostParishes_X0_mostUnions : GoodIn wsX0_mostParishes (wsV RX0 69 RX0 yX0_mostUnions wsX0_mostUnions) := goodIn_app (goodIn_r _ [6, 7, 8, 9] rfl (by decide +kernel)) ggX0_mostParishes_X0_mostUnions
theorem dX0_mostParishes_0 : decode cX0_mostParishes 0 = .ok (.iconst 0, 1) := by decide +kernel
theorem dX0_mostParishes_1 : decode cX0_mostParishes 1 = .ok (.istore_n 3, 1) := by decide +kernel
theorem dX0_mostParishes_2 : decode cX0_mostParishes 2 = .ok (.iconst 0, 1) := by decide +kernel
theorem dX0_mostParishes_3 : decode cX0_mostParishes 3 = .ok (.istore 4, 2) := by decide +kernel
theorem dX0_mostParishes_5 : decode cX0_mostParishes 5 = .ok (.iconst 0, 1) := by decide +kernel
theorem dX0_mostParishes_6 : decode cX0_mostParishes 6 = .ok (.istore 5, 2) := by decide +kernel
theorem dX0_mostParishes_8 : decode cX0_mostParishes 8 = .ok (.iload 5, 2) := by decide +kernel
theorem dX0_mostParishes_10 : decode cX0_mostParishes 10 = .ok (.bipush 10, 2) := by decide +kernel
theorem dX0_mostParishes_12 : decode cX0_mostParishes 12 = .ok (.if_icmp .ge 70, 3) := by decide +kernel
theorem dX0_mostParishes_15 : decode cX0_mostParishes 15 = .ok (.aload_n 1, 1) := by decide +kernel
theorem dX0_mostParishes_16 : decode cX0_mostParishes 16 = .ok (.getfield 51, 3) := by decide +kernel
theorem dX0_mostParishes_19 : decode cX0_mostParishes 19 = .ok (.iload 5, 2) := by decide +kernel
theorem dX0_mostParishes_21 : decode cX0_mostParishes 21 = .ok (.iaload, 1) := by decide +kernel
theorem dX0_mostParishes_22 : decode cX0_mostParishes 22 = .ok (.iload_n 2, 1) := by decide +kernel
theorem dX0_mostParishes_23 : decode cX0_mostParishes 23 = .ok (.iand, 1) := by decide +kernel
theorem dX0_mostParishes_24 : decode cX0_mostParishes 24 = .ok (.istore 6, 2) := by decide +kernel
theorem dX0_mostParishes_26 : decode cX0_mostParishes 26 = .ok (.aload_n 1, 1) := by decide +kernel
theorem dX0_mostParishes_27 : decode cX0_mostParishes 27 = .ok (.getfield 27, 3) := by decide +kernel
theorem dX0_mostParishes_30 : decode cX0_mostParishes 30 = .ok (.iload 5, 2) := by decide +kernel
theorem dX0_mostParishes_32 : decode cX0_mostParishes 32 = .ok (.invokestatic 47, 3) := by decide +kernel
theorem dX0_mostParishes_35 : decode cX0_mostParishes 35 = .ok (.ifCond .eq 15, 3) := by decide +kernel
theorem dX0_mostParishes_38 : decode cX0_mostParishes 38 = .ok (.iload 6, 2) := by decide +kernel
theorem dX0_mostParishes_40 : decode cX0_mostParishes 40 = .ok (.iload_n 2, 1) := by decide +kernel
theorem dX0_mostParishes_41 : decode cX0_mostParishes 41 = .ok (.if_icmp .ne 9, 3) := by decide +kernel
theorem dX0_mostParishes_44 : decode cX0_mostParishes 44 = .ok (.iinc 3 1, 3) := by decide +kernel
theorem dX0_mostParishes_47 : decode cX0_mostParishes 47 = .ok (.goto 29, 3) := by decide +kernel
theorem dX0_mostParishes_50 : decode cX0_mostParishes 50 = .ok (.aload_n 1, 1) := by decide +kernel
theorem dX0_mostParishes_51 : decode cX0_mostParishes 51 = .ok (.getfield 27, 3) := by decide +kernel
theorem dX0_mostParishes_54 : decode cX0_mostParishes 54 = .ok (.iload 5, 2) := by decide +kernel
theorem dX0_mostParishes_56 : decode cX0_mostParishes 56 = .ok (.invokestatic 47, 3) := by decide +kernel
theorem dX0_mostParishes_59 : decode cX0_mostParishes 59 = .ok (.ifCond .eq 17, 3) := by decide +kernel
theorem dX0_mostParishes_62 : decode cX0_mostParishes 62 = .ok (.iload 6, 2) := by decide +kernel
theorem dX0_mostParishes_64 : decode cX0_mostParishes 64 = .ok (.ifCond .eq 12, 3) := by decide +kernel
theorem dX0_mostParishes_67 : decode cX0_mostParishes 67 = .ok (.iload 4, 2) := by decide +kernel
theorem dX0_mostParishes_69 : decode cX0_mostParishes 69 = .ok (.iconst 1, 1) := by decide +kernel
theorem dX0_mostParishes_70 : decode cX0_mostParishes 70 = .ok (.iload 5, 2) := by decide +kernel
theorem dX0_mostParishes_72 : decode cX0_mostParishes 72 = .ok (.ishl, 1) := by decide +kernel
theorem dX0_mostParishes_73 : decode cX0_mostParishes 73 = .ok (.ior, 1) := by decide +kernel
theorem dX0_mostParishes_74 : decode cX0_mostParishes 74 = .ok (.istore 4, 2) := by decide +kernel
theorem dX0_mostParishes_76 : decode cX0_mostParishes 76 = .ok (.iinc 5 1, 3) := by decide +kernel
theorem dX0_mostParishes_79 : decode cX0_mostParishes 79 = .ok (.goto (-71), 3) := by decide +kernel
theorem dX0_mostParishes_82 : decode cX0_mostParishes 82 = .ok (.iload_n 3, 1) := by decide +kernel
theorem dX0_mostParishes_83 : decode cX0_mostParishes 83 = .ok (.aload_n 0, 1) := by decide +kernel
theorem dX0_mostParishes_84 : decode cX0_mostParishes 84 = .ok (.aload_n 1, 1) := by decide +kernel
theorem dX0_mostParishes_85 : decode cX0_mostParishes 85 = .ok (.iload 4, 2) := by decide +kernel
theorem dX0_mostParishes_87 : decode cX0_mostParishes 87 = .ok (.iload_n 2, 1) := by decide +kernel
theorem dX0_mostParishes_88 : decode cX0_mostParishes 88 = .ok (.invokevirtual 69, 3) := by decide +kernel
theorem dX0_mostParishes_91 : decode cX0_mostParishes 91 = .ok (.iadd, 1) := by decide +kernel
theorem dX0_mostParishes_92 : decode cX0_mostParishes 92 = .ok (.ireturn, 1) := by decide +kernel
set_option maxRecDepth 20000 in
theorem ggX0_mostUnions_X8_isIn : GoodIn wsX0_mostUnions wsX8_isIn := goodIn_r _ [6] rfl (by decide +kernel)
set_option maxRecDepth 20000 in
theorem gX0_mostUnions_X8_isIn_n47 : GoodIn wsX0_mostUnions (wsX8_isIn) := ggX0_mostUnions_X8_isIn
set_option maxRecDepth 20000 in
theorem ggX0_mostUnions_X0_reckonWith : GoodIn wsX0_mostUnions wsX0_reckonWith := goodIn_r _ [11, 1, 2, 12, 13, 14, 10, 15, 16, 17, 18, 19, 20, 21, 22, 23, 24, 25, 26] rfl (by decide +kernel)
set_option maxRecDepth 20000 in
theorem gX0_mostUnions_X0_reckonWith : GoodIn wsX0_mostUnions (wsV RX0 73 RX0 yX0_reckonWith wsX0_reckonWith) := goodIn_app (goodIn_r _ [7, 8, 9, 10] rfl (by decide +kernel)) ggX0_mostUnions_X0_reckonWith
theorem dX0_mostUnions_0 : decode cX0_mostUnions 0 = .ok (.aload_n 0, 1) := by decide +kernel
theorem dX0_mostUnions_1 : decode cX0_mostUnions 1 = .ok (.getfield 18, 3) := by decide +kernel
theorem dX0_mostUnions_4 : decode cX0_mostUnions 4 = .ok (.iconst 0, 1) := by decide +kernel
theorem dX0_mostUnions_5 : decode cX0_mostUnions 5 = .ok (.iconst 0, 1) := by decide +kernel
theorem dX0_mostUnions_6 : decode cX0_mostUnions 6 = .ok (.iastore, 1) := by decide +kernel
theorem dX0_mostUnions_7 : decode cX0_mostUnions 7 = .ok (.aload_n 0, 1) := by decide +kernel
theorem dX0_mostUnions_8 : decode cX0_mostUnions 8 = .ok (.getfield 21, 3) := by decide +kernel
theorem dX0_mostUnions_11 : decode cX0_mostUnions 11 = .ok (.iconst 0, 1) := by decide +kernel
theorem dX0_mostUnions_12 : decode cX0_mostUnions 12 = .ok (.iconst 0, 1) := by decide +kernel
theorem dX0_mostUnions_13 : decode cX0_mostUnions 13 = .ok (.iastore, 1) := by decide +kernel
theorem dX0_mostUnions_14 : decode cX0_mostUnions 14 = .ok (.iconst 0, 1) := by decide +kernel
theorem dX0_mostUnions_15 : decode cX0_mostUnions 15 = .ok (.istore 4, 2) := by decide +kernel
theorem dX0_mostUnions_17 : decode cX0_mostUnions 17 = .ok (.iload 4, 2) := by decide +kernel
theorem dX0_mostUnions_19 : decode cX0_mostUnions 19 = .ok (.bipush 10, 2) := by decide +kernel
theorem dX0_mostUnions_21 : decode cX0_mostUnions 21 = .ok (.if_icmp .ge 37, 3) := by decide +kernel
theorem dX0_mostUnions_24 : decode cX0_mostUnions 24 = .ok (.iload_n 2, 1) := by decide +kernel
theorem dX0_mostUnions_25 : decode cX0_mostUnions 25 = .ok (.iload 4, 2) := by decide +kernel
theorem dX0_mostUnions_27 : decode cX0_mostUnions 27 = .ok (.invokestatic 47, 3) := by decide +kernel
theorem dX0_mostUnions_30 : decode cX0_mostUnions 30 = .ok (.ifCond .eq 22, 3) := by decide +kernel
theorem dX0_mostUnions_33 : decode cX0_mostUnions 33 = .ok (.aload_n 0, 1) := by decide +kernel
theorem dX0_mostUnions_34 : decode cX0_mostUnions 34 = .ok (.iconst 1, 1) := by decide +kernel
theorem dX0_mostUnions_35 : decode cX0_mostUnions 35 = .ok (.iload 4, 2) := by decide +kernel
theorem dX0_mostUnions_37 : decode cX0_mostUnions 37 = .ok (.ishl, 1) := by decide +kernel
theorem dX0_mostUnions_38 : decode cX0_mostUnions 38 = .ok (.aload_n 1, 1) := by decide +kernel
theorem dX0_mostUnions_39 : decode cX0_mostUnions 39 = .ok (.getfield 51, 3) := by decide +kernel
theorem dX0_mostUnions_42 : decode cX0_mostUnions 42 = .ok (.iload 4, 2) := by decide +kernel
theorem dX0_mostUnions_44 : decode cX0_mostUnions 44 = .ok (.iaload, 1) := by decide +kernel
theorem dX0_mostUnions_45 : decode cX0_mostUnions 45 = .ok (.iload_n 3, 1) := by decide +kernel
theorem dX0_mostUnions_46 : decode cX0_mostUnions 46 = .ok (.iand, 1) := by decide +kernel
theorem dX0_mostUnions_47 : decode cX0_mostUnions 47 = .ok (.iload_n 2, 1) := by decide +kernel
theorem dX0_mostUnions_48 : decode cX0_mostUnions 48 = .ok (.iload_n 3, 1) := by decide +kernel
theorem dX0_mostUnions_49 : decode cX0_mostUnions 49 = .ok (.invokevirtual 73, 3) := by decide +kernel
theorem dX0_mostUnions_52 : decode cX0_mostUnions 52 = .ok (.iinc 4 1, 3) := by decide +kernel
theorem dX0_mostUnions_55 : decode cX0_mostUnions 55 = .ok (.goto (-38), 3) := by decide +kernel
theorem dX0_mostUnions_58 : decode cX0_mostUnions 58 = .ok (.aload_n 0, 1) := by decide +kernel
theorem dX0_mostUnions_59 : decode cX0_mostUnions 59 = .ok (.getfield 21, 3) := by decide +kernel
theorem dX0_mostUnions_62 : decode cX0_mostUnions 62 = .ok (.iload_n 2, 1) := by decide +kernel
theorem dX0_mostUnions_63 : decode cX0_mostUnions 63 = .ok (.iaload, 1) := by decide +kernel
theorem dX0_mostUnions_64 : decode cX0_mostUnions 64 = .ok (.ireturn, 1) := by decide +kernel
set_option maxRecDepth 20000 in
theorem ggX0_reckonWith_X0_mostWith : GoodIn wsX0_reckonWith wsX0_mostWith := goodIn_r _ [7, 2, 1, 8, 9, 10, 11, 12, 13, 14, 15, 16, 17, 18] rfl (by decide +kernel)
set_option maxRecDepth 20000 in
theorem gX0_reckonWith_X0_mostWith : GoodIn wsX0_reckonWith (wsV RX0 77 RX0 yX0_mostWith wsX0_mostWith) := goodIn_app (goodIn_r _ [3, 4, 5, 6] rfl (by decide +kernel)) ggX0_reckonWith_X0_mostWith
theorem dX0_reckonWith_0 : decode cX0_reckonWith 0 = .ok (.iconst 0, 1) := by decide +kernel
theorem dX0_reckonWith_1 : decode cX0_reckonWith 1 = .ok (.istore 5, 2) := by decide +kernel
theorem dX0_reckonWith_3 : decode cX0_reckonWith 3 = .ok (.iload 5, 2) := by decide +kernel
theorem dX0_reckonWith_5 : decode cX0_reckonWith 5 = .ok (.iload_n 1, 1) := by decide +kernel
theorem dX0_reckonWith_6 : decode cX0_reckonWith 6 = .ok (.if_icmp .ge 72, 3) := by decide +kernel
theorem dX0_reckonWith_9 : decode cX0_reckonWith 9 = .ok (.iload 5, 2) := by decide +kernel
theorem dX0_reckonWith_11 : decode cX0_reckonWith 11 = .ok (.iload_n 3, 1) := by decide +kernel
theorem dX0_reckonWith_12 : decode cX0_reckonWith 12 = .ok (.iconst (-1), 1) := by decide +kernel
theorem dX0_reckonWith_13 : decode cX0_reckonWith 13 = .ok (.ixor, 1) := by decide +kernel
theorem dX0_reckonWith_14 : decode cX0_reckonWith 14 = .ok (.iand, 1) := by decide +kernel
theorem dX0_reckonWith_15 : decode cX0_reckonWith 15 = .ok (.ifCond .ne 57, 3) := by decide +kernel
theorem dX0_reckonWith_18 : decode cX0_reckonWith 18 = .ok (.iload 5, 2) := by decide +kernel
theorem dX0_reckonWith_20 : decode cX0_reckonWith 20 = .ok (.iload_n 1, 1) := by decide +kernel
theorem dX0_reckonWith_21 : decode cX0_reckonWith 21 = .ok (.ior, 1) := by decide +kernel
theorem dX0_reckonWith_22 : decode cX0_reckonWith 22 = .ok (.istore 6, 2) := by decide +kernel
theorem dX0_reckonWith_24 : decode cX0_reckonWith 24 = .ok (.aload_n 0, 1) := by decide +kernel
theorem dX0_reckonWith_25 : decode cX0_reckonWith 25 = .ok (.getfield 18, 3) := by decide +kernel
theorem dX0_reckonWith_28 : decode cX0_reckonWith 28 = .ok (.iload 6, 2) := by decide +kernel
theorem dX0_reckonWith_30 : decode cX0_reckonWith 30 = .ok (.aload_n 0, 1) := by decide +kernel
theorem dX0_reckonWith_31 : decode cX0_reckonWith 31 = .ok (.getfield 18, 3) := by decide +kernel
theorem dX0_reckonWith_34 : decode cX0_reckonWith 34 = .ok (.iload 5, 2) := by decide +kernel
theorem dX0_reckonWith_36 : decode cX0_reckonWith 36 = .ok (.iaload, 1) := by decide +kernel
theorem dX0_reckonWith_37 : decode cX0_reckonWith 37 = .ok (.iload_n 2, 1) := by decide +kernel
theorem dX0_reckonWith_38 : decode cX0_reckonWith 38 = .ok (.ior, 1) := by decide +kernel
theorem dX0_reckonWith_39 : decode cX0_reckonWith 39 = .ok (.iastore, 1) := by decide +kernel
theorem dX0_reckonWith_40 : decode cX0_reckonWith 40 = .ok (.aload_n 0, 1) := by decide +kernel
theorem dX0_reckonWith_41 : decode cX0_reckonWith 41 = .ok (.getfield 21, 3) := by decide +kernel
theorem dX0_reckonWith_44 : decode cX0_reckonWith 44 = .ok (.iload 6, 2) := by decide +kernel
theorem dX0_reckonWith_46 : decode cX0_reckonWith 46 = .ok (.aload_n 0, 1) := by decide +kernel
theorem dX0_reckonWith_47 : decode cX0_reckonWith 47 = .ok (.getfield 18, 3) := by decide +kernel
theorem dX0_reckonWith_50 : decode cX0_reckonWith 50 = .ok (.iload 6, 2) := by decide +kernel
theorem dX0_reckonWith_52 : decode cX0_reckonWith 52 = .ok (.iaload, 1) := by decide +kernel
theorem dX0_reckonWith_53 : decode cX0_reckonWith 53 = .ok (.iload 4, 2) := by decide +kernel
theorem dX0_reckonWith_55 : decode cX0_reckonWith 55 = .ok (.if_icmp .ne 15, 3) := by decide +kernel
theorem dX0_reckonWith_58 : decode cX0_reckonWith 58 = .ok (.aload_n 0, 1) := by decide +kernel
theorem dX0_reckonWith_59 : decode cX0_reckonWith 59 = .ok (.iload_n 1, 1) := by decide +kernel
theorem dX0_reckonWith_60 : decode cX0_reckonWith 60 = .ok (.iload 5, 2) := by decide +kernel
theorem dX0_reckonWith_62 : decode cX0_reckonWith 62 = .ok (.iload 4, 2) := by decide +kernel
theorem dX0_reckonWith_64 : decode cX0_reckonWith 64 = .ok (.invokevirtual 77, 3) := by decide +kernel
theorem dX0_reckonWith_67 : decode cX0_reckonWith 67 = .ok (.goto 4, 3) := by decide +kernel
theorem dX0_reckonWith_70 : decode cX0_reckonWith 70 = .ok (.iconst 0, 1) := by decide +kernel
theorem dX0_reckonWith_71 : decode cX0_reckonWith 71 = .ok (.iastore, 1) := by decide +kernel
theorem dX0_reckonWith_72 : decode cX0_reckonWith 72 = .ok (.iinc 5 1, 3) := by decide +kernel
theorem dX0_reckonWith_75 : decode cX0_reckonWith 75 = .ok (.goto (-72), 3) := by decide +kernel
theorem dX0_reckonWith_78 : decode cX0_reckonWith 78 = .ok (.return_, 1) := by decide +kernel
theorem dX0_mostWith_0 : decode cX0_mostWith 0 = .ok (.aload_n 0, 1) := by decide +kernel
theorem dX0_mostWith_1 : decode cX0_mostWith 1 = .ok (.getfield 21, 3) := by decide +kernel
theorem dX0_mostWith_4 : decode cX0_mostWith 4 = .ok (.iload_n 2, 1) := by decide +kernel
theorem dX0_mostWith_5 : decode cX0_mostWith 5 = .ok (.iaload, 1) := by decide +kernel
theorem dX0_mostWith_6 : decode cX0_mostWith 6 = .ok (.istore 4, 2) := by decide +kernel
theorem dX0_mostWith_8 : decode cX0_mostWith 8 = .ok (.iload_n 2, 1) := by decide +kernel
theorem dX0_mostWith_9 : decode cX0_mostWith 9 = .ok (.istore 5, 2) := by decide +kernel
theorem dX0_mostWith_11 : decode cX0_mostWith 11 = .ok (.iconst 0, 1) := by decide +kernel
theorem dX0_mostWith_12 : decode cX0_mostWith 12 = .ok (.istore 6, 2) := by decide +kernel
theorem dX0_mostWith_14 : decode cX0_mostWith 14 = .ok (.iload 6, 2) := by decide +kernel
theorem dX0_mostWith_16 : decode cX0_mostWith 16 = .ok (.sipush 1024, 3) := by decide +kernel
theorem dX0_mostWith_19 : decode cX0_mostWith 19 = .ok (.if_icmp .ge 53, 3) := by decide +kernel
theorem dX0_mostWith_22 : decode cX0_mostWith 22 = .ok (.iload 5, 2) := by decide +kernel
theorem dX0_mostWith_24 : decode cX0_mostWith 24 = .ok (.ifCond .eq 48, 3) := by decide +kernel
theorem dX0_mostWith_27 : decode cX0_mostWith 27 = .ok (.aload_n 0, 1) := by decide +kernel
theorem dX0_mostWith_28 : decode cX0_mostWith 28 = .ok (.getfield 18, 3) := by decide +kernel
theorem dX0_mostWith_31 : decode cX0_mostWith 31 = .ok (.iload 5, 2) := by decide +kernel
theorem dX0_mostWith_33 : decode cX0_mostWith 33 = .ok (.iload_n 1, 1) := by decide +kernel
theorem dX0_mostWith_34 : decode cX0_mostWith 34 = .ok (.ior, 1) := by decide +kernel
theorem dX0_mostWith_35 : decode cX0_mostWith 35 = .ok (.iaload, 1) := by decide +kernel
theorem dX0_mostWith_36 : decode cX0_mostWith 36 = .ok (.iload_n 3, 1) := by decide +kernel
theorem dX0_mostWith_37 : decode cX0_mostWith 37 = .ok (.if_icmp .ne 21, 3) := by decide +kernel
theorem dX0_mostWith_40 : decode cX0_mostWith 40 = .ok (.iload 4, 2) := by decide +kernel
theorem dX0_mostWith_42 : decode cX0_mostWith 42 = .ok (.iconst 1, 1) := by decide +kernel
theorem dX0_mostWith_43 : decode cX0_mostWith 43 = .ok (.aload_n 0, 1) := by decide +kernel
theorem dX0_mostWith_44 : decode cX0_mostWith 44 = .ok (.getfield 21, 3) := by decide +kernel
theorem dX0_mostWith_47 : decode cX0_mostWith 47 = .ok (.iload_n 2, 1) := by decide +kernel
theorem dX0_mostWith_48 : decode cX0_mostWith 48 = .ok (.iload 5, 2) := by decide +kernel
theorem dX0_mostWith_50 : decode cX0_mostWith 50 = .ok (.ixor, 1) := by decide +kernel
theorem dX0_mostWith_51 : decode cX0_mostWith 51 = .ok (.iaload, 1) := by decide +kernel
theorem dX0_mostWith_52 : decode cX0_mostWith 52 = .ok (.iadd, 1) := by decide +kernel
theorem dX0_mostWith_53 : decode cX0_mostWith 53 = .ok (.invokestatic 81, 3) := by decide +kernel
theorem dX0_mostWith_56 : decode cX0_mostWith 56 = .ok (.istore 4, 2) := by decide +kernel
theorem dX0_mostWith_58 : decode cX0_mostWith 58 = .ok (.iload 5, 2) := by decide +kernel
theorem dX0_mostWith_60 : decode cX0_mostWith 60 = .ok (.iconst 1, 1) := by decide +kernel
theorem dX0_mostWith_61 : decode cX0_mostWith 61 = .ok (.isub, 1) := by decide +kernel
theorem dX0_mostWith_62 : decode cX0_mostWith 62 = .ok (.iload_n 2, 1) := by decide +kernel
theorem dX0_mostWith_63 : decode cX0_mostWith 63 = .ok (.iand, 1) := by decide +kernel
theorem dX0_mostWith_64 : decode cX0_mostWith 64 = .ok (.istore 5, 2) := by decide +kernel
theorem dX0_mostWith_66 : decode cX0_mostWith 66 = .ok (.iinc 6 1, 3) := by decide +kernel
theorem dX0_mostWith_69 : decode cX0_mostWith 69 = .ok (.goto (-55), 3) := by decide +kernel
theorem dX0_mostWith_72 : decode cX0_mostWith 72 = .ok (.iload 4, 2) := by decide +kernel
theorem dX0_mostWith_74 : decode cX0_mostWith 74 = .ok (.ireturn, 1) := by decide +kernel
set_option maxRecDepth 20000 in
theorem ggX0_highestPile_X0_weighPile : GoodIn wsX0_highestPile wsX0_weighPile := goodIn_r _ [7, 2, 8, 9, 10, 11, 12, 13, 14, 15, 16, 17, 18, 19, 26, 27, 28, 29, 30, 31, 32, 20, 21, 22, 23, 24, 25] rfl (by decide +kernel)
set_option maxRecDepth 20000 in
theorem gX0_highestPile_X0_weighPile : GoodIn wsX0_highestPile (wsV RX0 84 RX0 yX0_weighPile wsX0_weighPile) := goodIn_app (goodIn_r _ [3, 4, 5, 6] rfl (by decide +kernel)) ggX0_highestPile_X0_weighPile
set_option maxRecDepth 20000 in
theorem ggX0_highestPile_J6_bitCount_0f7a4 : GoodIn wsX0_highestPile wsJ6_bitCount_0f7a4 := goodIn_r _ [16, 17, 18, 19] rfl (by decide +kernel)
set_option maxRecDepth 20000 in
theorem gX0_highestPile_J6_bitCount_0f7a4 : GoodIn wsX0_highestPile (va_wsS RX0 54 yJ6_bitCount_0f7a4 wsJ6_bitCount_0f7a4) := goodIn_app (goodIn_r _ [13, 14, 15] rfl (by decide +kernel)) ggX0_highestPile_J6_bitCount_0f7a4
theorem dX0_highestPile_0 : decode cX0_highestPile 0 = .ok (.aload_n 1, 1) := by decide +kernel
theorem dX0_highestPile_1 : decode cX0_highestPile 1 = .ok (.getfield 27, 3) := by decide +kernel
theorem dX0_highestPile_4 : decode cX0_highestPile 4 = .ok (.sipush 1023, 3) := by decide +kernel
theorem dX0_highestPile_7 : decode cX0_highestPile 7 = .ok (.iand, 1) := by decide +kernel
theorem dX0_highestPile_8 : decode cX0_highestPile 8 = .ok (.istore_n 2, 1) := by decide +kernel
theorem dX0_highestPile_9 : decode cX0_highestPile 9 = .ok (.iconst 0, 1) := by decide +kernel
theorem dX0_highestPile_10 : decode cX0_highestPile 10 = .ok (.istore_n 3, 1) := by decide +kernel
theorem dX0_highestPile_11 : decode cX0_highestPile 11 = .ok (.aload_n 0, 1) := by decide +kernel
theorem dX0_highestPile_12 : decode cX0_highestPile 12 = .ok (.getfield 24, 3) := by decide +kernel
theorem dX0_highestPile_15 : decode cX0_highestPile 15 = .ok (.iconst 0, 1) := by decide +kernel
theorem dX0_highestPile_16 : decode cX0_highestPile 16 = .ok (.iconst 0, 1) := by decide +kernel
theorem dX0_highestPile_17 : decode cX0_highestPile 17 = .ok (.iastore, 1) := by decide +kernel
theorem dX0_highestPile_18 : decode cX0_highestPile 18 = .ok (.iconst 1, 1) := by decide +kernel
theorem dX0_highestPile_19 : decode cX0_highestPile 19 = .ok (.istore 4, 2) := by decide +kernel
theorem dX0_highestPile_21 : decode cX0_highestPile 21 = .ok (.iload 4, 2) := by decide +kernel
theorem dX0_highestPile_23 : decode cX0_highestPile 23 = .ok (.iload_n 2, 1) := by decide +kernel
theorem dX0_highestPile_24 : decode cX0_highestPile 24 = .ok (.if_icmp .gt 59, 3) := by decide +kernel
theorem dX0_highestPile_27 : decode cX0_highestPile 27 = .ok (.iload 4, 2) := by decide +kernel
theorem dX0_highestPile_29 : decode cX0_highestPile 29 = .ok (.iload_n 2, 1) := by decide +kernel
theorem dX0_highestPile_30 : decode cX0_highestPile 30 = .ok (.iconst (-1), 1) := by decide +kernel
theorem dX0_highestPile_31 : decode cX0_highestPile 31 = .ok (.ixor, 1) := by decide +kernel
theorem dX0_highestPile_32 : decode cX0_highestPile 32 = .ok (.iand, 1) := by decide +kernel
theorem dX0_highestPile_33 : decode cX0_highestPile 33 = .ok (.ifCond .ne 44, 3) := by decide +kernel
theorem dX0_highestPile_36 : decode cX0_highestPile 36 = .ok (.aload_n 0, 1) := by decide +kernel
theorem dX0_highestPile_37 : decode cX0_highestPile 37 = .ok (.getfield 24, 3) := by decide +kernel
theorem dX0_highestPile_40 : decode cX0_highestPile 40 = .ok (.iload 4, 2) := by decide +kernel
theorem dX0_highestPile_42 : decode cX0_highestPile 42 = .ok (.aload_n 0, 1) := by decide +kernel
theorem dX0_highestPile_43 : decode cX0_highestPile 43 = .ok (.aload_n 1, 1) := by decide +kernel
theorem dX0_highestPile_44 : decode cX0_highestPile 44 = .ok (.iload 4, 2) := by decide +kernel
theorem dX0_highestPile_46 : decode cX0_highestPile 46 = .ok (.invokevirtual 84, 3) := by decide +kernel
theorem dX0_highestPile_49 : decode cX0_highestPile 49 = .ok (.iastore, 1) := by decide +kernel
theorem dX0_highestPile_50 : decode cX0_highestPile 50 = .ok (.aload_n 0, 1) := by decide +kernel
theorem dX0_highestPile_51 : decode cX0_highestPile 51 = .ok (.getfield 24, 3) := by decide +kernel
theorem dX0_highestPile_54 : decode cX0_highestPile 54 = .ok (.iload 4, 2) := by decide +kernel
theorem dX0_highestPile_56 : decode cX0_highestPile 56 = .ok (.iaload, 1) := by decide +kernel
theorem dX0_highestPile_57 : decode cX0_highestPile 57 = .ok (.bipush (-6), 2) := by decide +kernel
theorem dX0_highestPile_59 : decode cX0_highestPile 59 = .ok (.if_icmp .eq 18, 3) := by decide +kernel
theorem dX0_highestPile_62 : decode cX0_highestPile 62 = .ok (.iload 4, 2) := by decide +kernel
theorem dX0_highestPile_64 : decode cX0_highestPile 64 = .ok (.invokestatic 54, 3) := by decide +kernel
theorem dX0_highestPile_67 : decode cX0_highestPile 67 = .ok (.iload_n 3, 1) := by decide +kernel
theorem dX0_highestPile_68 : decode cX0_highestPile 68 = .ok (.invokestatic 54, 3) := by decide +kernel
theorem dX0_highestPile_71 : decode cX0_highestPile 71 = .ok (.if_icmp .le 6, 3) := by decide +kernel
theorem dX0_highestPile_74 : decode cX0_highestPile 74 = .ok (.iload 4, 2) := by decide +kernel
theorem dX0_highestPile_76 : decode cX0_highestPile 76 = .ok (.istore_n 3, 1) := by decide +kernel
theorem dX0_highestPile_77 : decode cX0_highestPile 77 = .ok (.iinc 4 1, 3) := by decide +kernel
theorem dX0_highestPile_80 : decode cX0_highestPile 80 = .ok (.goto (-59), 3) := by decide +kernel
theorem dX0_highestPile_83 : decode cX0_highestPile 83 = .ok (.iload_n 3, 1) := by decide +kernel
theorem dX0_highestPile_84 : decode cX0_highestPile 84 = .ok (.ireturn, 1) := by decide +kernel
set_option maxRecDepth 20000 in
theorem ggX0_weighPile_X8_isIn : GoodIn wsX0_weighPile wsX8_isIn := goodIn_r _ [6] rfl (by decide +kernel)
set_option maxRecDepth 20000 in
theorem gX0_weighPile_X8_isIn_n47 : GoodIn wsX0_weighPile (wsX8_isIn) := ggX0_weighPile_X8_isIn
set_option maxRecDepth 20000 in
theorem ggX0_weighPile_J6_bitCount_0f7a4 : GoodIn wsX0_weighPile wsJ6_bitCount_0f7a4 := goodIn_r _ [10, 11, 12, 13] rfl (by decide +kernel)
set_option maxRecDepth 20000 in
theorem gX0_weighPile_J6_bitCount_0f7a4 : GoodIn wsX0_weighPile (va_wsS RX0 54 yJ6_bitCount_0f7a4 wsJ6_bitCount_0f7a4) := goodIn_app (goodIn_r _ [7, 8, 9] rfl (by decide +kernel)) ggX0_weighPile_J6_bitCount_0f7a4
theorem dX0_weighPile_0 : decode cX0_weighPile 0 = .ok (.iconst 0, 1) := by decide +kernel
theorem dX0_weighPile_1 : decode cX0_weighPile 1 = .ok (.istore_n 3, 1) := by decide +kernel
theorem dX0_weighPile_2 : decode cX0_weighPile 2 = .ok (.iload_n 3, 1) := by decide +kernel
theorem dX0_weighPile_3 : decode cX0_weighPile 3 = .ok (.bipush 10, 2) := by decide +kernel
theorem dX0_weighPile_5 : decode cX0_weighPile 5 = .ok (.if_icmp .ge 66, 3) := by decide +kernel
theorem dX0_weighPile_8 : decode cX0_weighPile 8 = .ok (.iload_n 2, 1) := by decide +kernel
theorem dX0_weighPile_9 : decode cX0_weighPile 9 = .ok (.iload_n 3, 1) := by decide +kernel
theorem dX0_weighPile_10 : decode cX0_weighPile 10 = .ok (.invokestatic 47, 3) := by decide +kernel
theorem dX0_weighPile_13 : decode cX0_weighPile 13 = .ok (.ifCond .eq 52, 3) := by decide +kernel
theorem dX0_weighPile_16 : decode cX0_weighPile 16 = .ok (.aload_n 0, 1) := by decide +kernel
theorem dX0_weighPile_17 : decode cX0_weighPile 17 = .ok (.getfield 24, 3) := by decide +kernel
theorem dX0_weighPile_20 : decode cX0_weighPile 20 = .ok (.iload_n 2, 1) := by decide +kernel
theorem dX0_weighPile_21 : decode cX0_weighPile 21 = .ok (.iconst 1, 1) := by decide +kernel
theorem dX0_weighPile_22 : decode cX0_weighPile 22 = .ok (.iload_n 3, 1) := by decide +kernel
theorem dX0_weighPile_23 : decode cX0_weighPile 23 = .ok (.ishl, 1) := by decide +kernel
theorem dX0_weighPile_24 : decode cX0_weighPile 24 = .ok (.iconst (-1), 1) := by decide +kernel
theorem dX0_weighPile_25 : decode cX0_weighPile 25 = .ok (.ixor, 1) := by decide +kernel
theorem dX0_weighPile_26 : decode cX0_weighPile 26 = .ok (.iand, 1) := by decide +kernel
theorem dX0_weighPile_27 : decode cX0_weighPile 27 = .ok (.iaload, 1) := by decide +kernel
theorem dX0_weighPile_28 : decode cX0_weighPile 28 = .ok (.istore 4, 2) := by decide +kernel
theorem dX0_weighPile_30 : decode cX0_weighPile 30 = .ok (.iload 4, 2) := by decide +kernel
theorem dX0_weighPile_32 : decode cX0_weighPile 32 = .ok (.bipush (-6), 2) := by decide +kernel
theorem dX0_weighPile_34 : decode cX0_weighPile 34 = .ok (.if_icmp .eq 31, 3) := by decide +kernel
theorem dX0_weighPile_37 : decode cX0_weighPile 37 = .ok (.iload 4, 2) := by decide +kernel
theorem dX0_weighPile_39 : decode cX0_weighPile 39 = .ok (.aload_n 1, 1) := by decide +kernel
theorem dX0_weighPile_40 : decode cX0_weighPile 40 = .ok (.getfield 88, 3) := by decide +kernel
theorem dX0_weighPile_43 : decode cX0_weighPile 43 = .ok (.iload_n 3, 1) := by decide +kernel
theorem dX0_weighPile_44 : decode cX0_weighPile 44 = .ok (.iaload, 1) := by decide +kernel
theorem dX0_weighPile_45 : decode cX0_weighPile 45 = .ok (.iconst 5, 1) := by decide +kernel
theorem dX0_weighPile_46 : decode cX0_weighPile 46 = .ok (.idiv, 1) := by decide +kernel
theorem dX0_weighPile_47 : decode cX0_weighPile 47 = .ok (.if_icmp .gt 18, 3) := by decide +kernel
theorem dX0_weighPile_50 : decode cX0_weighPile 50 = .ok (.iload 4, 2) := by decide +kernel
theorem dX0_weighPile_52 : decode cX0_weighPile 52 = .ok (.iconst 1, 1) := by decide +kernel
theorem dX0_weighPile_53 : decode cX0_weighPile 53 = .ok (.iadd, 1) := by decide +kernel
theorem dX0_weighPile_54 : decode cX0_weighPile 54 = .ok (.aload_n 1, 1) := by decide +kernel
theorem dX0_weighPile_55 : decode cX0_weighPile 55 = .ok (.getfield 51, 3) := by decide +kernel
theorem dX0_weighPile_58 : decode cX0_weighPile 58 = .ok (.iload_n 3, 1) := by decide +kernel
theorem dX0_weighPile_59 : decode cX0_weighPile 59 = .ok (.iaload, 1) := by decide +kernel
theorem dX0_weighPile_60 : decode cX0_weighPile 60 = .ok (.invokestatic 54, 3) := by decide +kernel
theorem dX0_weighPile_63 : decode cX0_weighPile 63 = .ok (.iadd, 1) := by decide +kernel
theorem dX0_weighPile_64 : decode cX0_weighPile 64 = .ok (.ireturn, 1) := by decide +kernel
theorem dX0_weighPile_65 : decode cX0_weighPile 65 = .ok (.iinc 3 1, 3) := by decide +kernel
theorem dX0_weighPile_68 : decode cX0_weighPile 68 = .ok (.goto (-66), 3) := by decide +kernel
theorem dX0_weighPile_71 : decode cX0_weighPile 71 = .ok (.bipush (-6), 2) := by decide +kernel
theorem dX0_weighPile_73 : decode cX0_weighPile 73 = .ok (.ireturn, 1) := by decide +kernel
theorem dX1_init_0 : decode cX1_init 0 = .ok (.aload_n 0, 1) := by decide +kernel
theorem dX1_init_1 : decode cX1_init 1 = .ok (.invokespecial 3, 3) := by decide +kernel
theorem dX1_init_4 : decode cX1_init 4 = .ok (.aload_n 0, 1) := by decide +kernel
theorem dX1_init_5 : decode cX1_init 5 = .ok (.sipush 1023, 3) := by decide +kernel
theorem dX1_init_8 : decode cX1_init 8 = .ok (.putfield 9, 3) := by decide +kernel
theorem dX1_init_11 : decode cX1_init 11 = .ok (.aload_n 0, 1) := by decide +kernel
theorem dX1_init_12 : decode cX1_init 12 = .ok (.bipush 20, 2) := by decide +kernel
theorem dX1_init_14 : decode cX1_init 14 = .ok (.putfield 15, 3) := by decide +kernel
theorem dX1_init_17 : decode cX1_init 17 = .ok (.aload_n 0, 1) := by decide +kernel
theorem dX1_init_18 : decode cX1_init 18 = .ok (.iconst 0, 1) := by decide +kernel
theorem dX1_init_19 : decode cX1_init 19 = .ok (.putfield 18, 3) := by decide +kernel
theorem dX1_init_22 : decode cX1_init 22 = .ok (.aload_n 0, 1) := by decide +kernel
theorem dX1_init_23 : decode cX1_init 23 = .ok (.bipush 10, 2) := by decide +kernel
theorem dX1_init_25 : decode cX1_init 25 = .ok (.newarray .int, 2) := by decide +kernel
theorem dX1_init_27 : decode cX1_init 27 = .ok (.putfield 21, 3) := by decide +kernel
theorem dX1_init_30 : decode cX1_init 30 = .ok (.aload_n 0, 1) := by decide +kernel
theorem dX1_init_31 : decode cX1_init 31 = .ok (.bipush 10, 2) := by decide +kernel
theorem dX1_init_33 : decode cX1_init 33 = .ok (.newarray .int, 2) := by decide +kernel
theorem dX1_init_35 : decode cX1_init 35 = .ok (.putfield 25, 3) := by decide +kernel
theorem dX1_init_38 : decode cX1_init 38 = .ok (.aload_n 0, 1) := by decide +kernel
theorem dX1_init_39 : decode cX1_init 39 = .ok (.bipush 10, 2) := by decide +kernel
theorem dX1_init_41 : decode cX1_init 41 = .ok (.newarray .int, 2) := by decide +kernel
theorem dX1_init_43 : decode cX1_init 43 = .ok (.putfield 28, 3) := by decide +kernel
theorem dX1_init_46 : decode cX1_init 46 = .ok (.iconst 0, 1) := by decide +kernel
theorem dX1_init_47 : decode cX1_init 47 = .ok (.istore_n 1, 1) := by decide +kernel
theorem dX1_init_48 : decode cX1_init 48 = .ok (.iload_n 1, 1) := by decide +kernel
theorem dX1_init_49 : decode cX1_init 49 = .ok (.bipush 10, 2) := by decide +kernel
theorem dX1_init_51 : decode cX1_init 51 = .ok (.if_icmp .ge 24, 3) := by decide +kernel
theorem dX1_init_54 : decode cX1_init 54 = .ok (.aload_n 0, 1) := by decide +kernel
theorem dX1_init_55 : decode cX1_init 55 = .ok (.getfield 21, 3) := by decide +kernel
theorem dX1_init_58 : decode cX1_init 58 = .ok (.iload_n 1, 1) := by decide +kernel
theorem dX1_init_59 : decode cX1_init 59 = .ok (.bipush 50, 2) := by decide +kernel
theorem dX1_init_61 : decode cX1_init 61 = .ok (.iastore, 1) := by decide +kernel
theorem dX1_init_62 : decode cX1_init 62 = .ok (.aload_n 0, 1) := by decide +kernel
theorem dX1_init_63 : decode cX1_init 63 = .ok (.getfield 28, 3) := by decide +kernel
theorem dX1_init_66 : decode cX1_init 66 = .ok (.iload_n 1, 1) := by decide +kernel
theorem dX1_init_67 : decode cX1_init 67 = .ok (.iload_n 1, 1) := by decide +kernel
theorem dX1_init_68 : decode cX1_init 68 = .ok (.iastore, 1) := by decide +kernel
theorem dX1_init_69 : decode cX1_init 69 = .ok (.iinc 1 1, 3) := by decide +kernel
theorem dX1_init_72 : decode cX1_init 72 = .ok (.goto (-24), 3) := by decide +kernel
theorem dX1_init_75 : decode cX1_init 75 = .ok (.return_, 1) := by decide +kernel
theorem dX1_copyFrom_0 : decode cX1_copyFrom 0 = .ok (.aload_n 0, 1) := by decide +kernel
theorem dX1_copyFrom_1 : decode cX1_copyFrom 1 = .ok (.aload_n 1, 1) := by decide +kernel
theorem dX1_copyFrom_2 : decode cX1_copyFrom 2 = .ok (.getfield 9, 3) := by decide +kernel
theorem dX1_copyFrom_5 : decode cX1_copyFrom 5 = .ok (.putfield 9, 3) := by decide +kernel
theorem dX1_copyFrom_8 : decode cX1_copyFrom 8 = .ok (.aload_n 0, 1) := by decide +kernel
theorem dX1_copyFrom_9 : decode cX1_copyFrom 9 = .ok (.aload_n 1, 1) := by decide +kernel
theorem dX1_copyFrom_10 : decode cX1_copyFrom 10 = .ok (.getfield 15, 3) := by decide +kernel
theorem dX1_copyFrom_13 : decode cX1_copyFrom 13 = .ok (.putfield 15, 3) := by decide +kernel
theorem dX1_copyFrom_16 : decode cX1_copyFrom 16 = .ok (.aload_n 0, 1) := by decide +kernel
theorem dX1_copyFrom_17 : decode cX1_copyFrom 17 = .ok (.aload_n 1, 1) := by decide +kernel
theorem dX1_copyFrom_18 : decode cX1_copyFrom 18 = .ok (.getfield 18, 3) := by decide +kernel
theorem dX1_copyFrom_21 : decode cX1_copyFrom 21 = .ok (.putfield 18, 3) := by decide +kernel
theorem dX1_copyFrom_24 : decode cX1_copyFrom 24 = .ok (.iconst 0, 1) := by decide +kernel
theorem dX1_copyFrom_25 : decode cX1_copyFrom 25 = .ok (.istore_n 2, 1) := by decide +kernel
theorem dX1_copyFrom_26 : decode cX1_copyFrom 26 = .ok (.iload_n 2, 1) := by decide +kernel
theorem dX1_copyFrom_27 : decode cX1_copyFrom 27 = .ok (.bipush 10, 2) := by decide +kernel
theorem dX1_copyFrom_29 : decode cX1_copyFrom 29 = .ok (.if_icmp .ge 45, 3) := by decide +kernel
theorem dX1_copyFrom_32 : decode cX1_copyFrom 32 = .ok (.aload_n 0, 1) := by decide +kernel
theorem dX1_copyFrom_33 : decode cX1_copyFrom 33 = .ok (.getfield 21, 3) := by decide +kernel
theorem dX1_copyFrom_36 : decode cX1_copyFrom 36 = .ok (.iload_n 2, 1) := by decide +kernel
theorem dX1_copyFrom_37 : decode cX1_copyFrom 37 = .ok (.aload_n 1, 1) := by decide +kernel
theorem dX1_copyFrom_38 : decode cX1_copyFrom 38 = .ok (.getfield 21, 3) := by decide +kernel
theorem dX1_copyFrom_41 : decode cX1_copyFrom 41 = .ok (.iload_n 2, 1) := by decide +kernel
theorem dX1_copyFrom_42 : decode cX1_copyFrom 42 = .ok (.iaload, 1) := by decide +kernel
theorem dX1_copyFrom_43 : decode cX1_copyFrom 43 = .ok (.iastore, 1) := by decide +kernel
theorem dX1_copyFrom_44 : decode cX1_copyFrom 44 = .ok (.aload_n 0, 1) := by decide +kernel
theorem dX1_copyFrom_45 : decode cX1_copyFrom 45 = .ok (.getfield 25, 3) := by decide +kernel
theorem dX1_copyFrom_48 : decode cX1_copyFrom 48 = .ok (.iload_n 2, 1) := by decide +kernel
theorem dX1_copyFrom_49 : decode cX1_copyFrom 49 = .ok (.aload_n 1, 1) := by decide +kernel
theorem dX1_copyFrom_50 : decode cX1_copyFrom 50 = .ok (.getfield 25, 3) := by decide +kernel
theorem dX1_copyFrom_53 : decode cX1_copyFrom 53 = .ok (.iload_n 2, 1) := by decide +kernel
theorem dX1_copyFrom_54 : decode cX1_copyFrom 54 = .ok (.iaload, 1) := by decide +kernel
theorem dX1_copyFrom_55 : decode cX1_copyFrom 55 = .ok (.iastore, 1) := by decide +kernel
theorem dX1_copyFrom_56 : decode cX1_copyFrom 56 = .ok (.aload_n 0, 1) := by decide +kernel
theorem dX1_copyFrom_57 : decode cX1_copyFrom 57 = .ok (.getfield 28, 3) := by decide +kernel
theorem dX1_copyFrom_60 : decode cX1_copyFrom 60 = .ok (.iload_n 2, 1) := by decide +kernel
theorem dX1_copyFrom_61 : decode cX1_copyFrom 61 = .ok (.aload_n 1, 1) := by decide +kernel
theorem dX1_copyFrom_62 : decode cX1_copyFrom 62 = .ok (.getfield 28, 3) := by decide +kernel
theorem dX1_copyFrom_65 : decode cX1_copyFrom 65 = .ok (.iload_n 2, 1) := by decide +kernel
theorem dX1_copyFrom_66 : decode cX1_copyFrom 66 = .ok (.iaload, 1) := by decide +kernel
theorem dX1_copyFrom_67 : decode cX1_copyFrom 67 = .ok (.iastore, 1) := by decide +kernel
theorem dX1_copyFrom_68 : decode cX1_copyFrom 68 = .ok (.iinc 2 1, 3) := by decide +kernel
theorem dX1_copyFrom_71 : decode cX1_copyFrom 71 = .ok (.goto (-45), 3) := by decide +kernel
theorem dX1_copyFrom_74 : decode cX1_copyFrom 74 = .ok (.return_, 1) := by decide +kernel
set_option maxRecDepth 20000 in
theorem ggX1_isThere_X8_isHassock : GoodIn wsX1_isThere wsX8_isHassock := goodIn_r _ [4] rfl (by decide +kernel)
set_option maxRecDepth 20000 in
theorem gX1_isThere_X8_isHassock_n31 : GoodIn wsX1_isThere (wsX8_isHassock) := ggX1_isThere_X8_isHassock
set_option maxRecDepth 20000 in
theorem ggX1_isThere_X8_isIn : GoodIn wsX1_isThere wsX8_isIn := goodIn_r _ [6] rfl (by decide +kernel)
set_option maxRecDepth 20000 in
theorem gX1_isThere_X8_isIn_n35 : GoodIn wsX1_isThere (wsX8_isIn) := ggX1_isThere_X8_isIn
theorem dX1_isThere_0 : decode cX1_isThere 0 = .ok (.iload_n 1, 1) := by decide +kernel
theorem dX1_isThere_1 : decode cX1_isThere 1 = .ok (.invokestatic 31, 3) := by decide +kernel
theorem dX1_isThere_4 : decode cX1_isThere 4 = .ok (.ifCond .eq 18, 3) := by decide +kernel
theorem dX1_isThere_7 : decode cX1_isThere 7 = .ok (.aload_n 0, 1) := by decide +kernel
theorem dX1_isThere_8 : decode cX1_isThere 8 = .ok (.getfield 9, 3) := by decide +kernel
theorem dX1_isThere_11 : decode cX1_isThere 11 = .ok (.iload_n 1, 1) := by decide +kernel
theorem dX1_isThere_12 : decode cX1_isThere 12 = .ok (.invokestatic 35, 3) := by decide +kernel
theorem dX1_isThere_15 : decode cX1_isThere 15 = .ok (.ifCond .eq 7, 3) := by decide +kernel
theorem dX1_isThere_18 : decode cX1_isThere 18 = .ok (.iconst 1, 1) := by decide +kernel
theorem dX1_isThere_19 : decode cX1_isThere 19 = .ok (.goto 4, 3) := by decide +kernel
theorem dX1_isThere_22 : decode cX1_isThere 22 = .ok (.iconst 0, 1) := by decide +kernel
theorem dX1_isThere_23 : decode cX1_isThere 23 = .ok (.ireturn, 1) := by decide +kernel
set_option maxRecDepth 20000 in
theorem ggX1_howMany_J6_bitCount_0f7a4 : GoodIn wsX1_howMany wsJ6_bitCount_0f7a4 := goodIn_r _ [5, 6, 7, 8] rfl (by decide +kernel)
set_option maxRecDepth 20000 in
theorem gX1_howMany_J6_bitCount_0f7a4 : GoodIn wsX1_howMany (va_wsS RX1 39 yJ6_bitCount_0f7a4 wsJ6_bitCount_0f7a4) := goodIn_app (goodIn_r _ [2, 3, 4] rfl (by decide +kernel)) ggX1_howMany_J6_bitCount_0f7a4
theorem dX1_howMany_0 : decode cX1_howMany 0 = .ok (.aload_n 0, 1) := by decide +kernel
theorem dX1_howMany_1 : decode cX1_howMany 1 = .ok (.getfield 9, 3) := by decide +kernel
theorem dX1_howMany_4 : decode cX1_howMany 4 = .ok (.invokestatic 39, 3) := by decide +kernel
theorem dX1_howMany_7 : decode cX1_howMany 7 = .ok (.ireturn, 1) := by decide +kernel
theorem dX1_bring_0 : decode cX1_bring 0 = .ok (.aload_n 0, 1) := by decide +kernel
theorem dX1_bring_1 : decode cX1_bring 1 = .ok (.dup, 1) := by decide +kernel
theorem dX1_bring_2 : decode cX1_bring 2 = .ok (.getfield 9, 3) := by decide +kernel
theorem dX1_bring_5 : decode cX1_bring 5 = .ok (.iconst 1, 1) := by decide +kernel
theorem dX1_bring_6 : decode cX1_bring 6 = .ok (.iload_n 1, 1) := by decide +kernel
theorem dX1_bring_7 : decode cX1_bring 7 = .ok (.ishl, 1) := by decide +kernel
theorem dX1_bring_8 : decode cX1_bring 8 = .ok (.ior, 1) := by decide +kernel
theorem dX1_bring_9 : decode cX1_bring 9 = .ok (.putfield 9, 3) := by decide +kernel
theorem dX1_bring_12 : decode cX1_bring 12 = .ok (.aload_n 0, 1) := by decide +kernel
theorem dX1_bring_13 : decode cX1_bring 13 = .ok (.getfield 21, 3) := by decide +kernel
theorem dX1_bring_16 : decode cX1_bring 16 = .ok (.iload_n 1, 1) := by decide +kernel
theorem dX1_bring_17 : decode cX1_bring 17 = .ok (.iload_n 2, 1) := by decide +kernel
theorem dX1_bring_18 : decode cX1_bring 18 = .ok (.iastore, 1) := by decide +kernel
theorem dX1_bring_19 : decode cX1_bring 19 = .ok (.aload_n 0, 1) := by decide +kernel
theorem dX1_bring_20 : decode cX1_bring 20 = .ok (.getfield 25, 3) := by decide +kernel
theorem dX1_bring_23 : decode cX1_bring 23 = .ok (.iload_n 1, 1) := by decide +kernel
theorem dX1_bring_24 : decode cX1_bring 24 = .ok (.iload_n 3, 1) := by decide +kernel
theorem dX1_bring_25 : decode cX1_bring 25 = .ok (.iastore, 1) := by decide +kernel
theorem dX1_bring_26 : decode cX1_bring 26 = .ok (.return_, 1) := by decide +kernel
theorem dX1_takeAway_0 : decode cX1_takeAway 0 = .ok (.aload_n 0, 1) := by decide +kernel
theorem dX1_takeAway_1 : decode cX1_takeAway 1 = .ok (.dup, 1) := by decide +kernel
theorem dX1_takeAway_2 : decode cX1_takeAway 2 = .ok (.getfield 9, 3) := by decide +kernel
theorem dX1_takeAway_5 : decode cX1_takeAway 5 = .ok (.iconst 1, 1) := by decide +kernel
theorem dX1_takeAway_6 : decode cX1_takeAway 6 = .ok (.iload_n 1, 1) := by decide +kernel
theorem dX1_takeAway_7 : decode cX1_takeAway 7 = .ok (.ishl, 1) := by decide +kernel
theorem dX1_takeAway_8 : decode cX1_takeAway 8 = .ok (.iconst (-1), 1) := by decide +kernel
theorem dX1_takeAway_9 : decode cX1_takeAway 9 = .ok (.ixor, 1) := by decide +kernel
theorem dX1_takeAway_10 : decode cX1_takeAway 10 = .ok (.iand, 1) := by decide +kernel
theorem dX1_takeAway_11 : decode cX1_takeAway 11 = .ok (.putfield 9, 3) := by decide +kernel
theorem dX1_takeAway_14 : decode cX1_takeAway 14 = .ok (.return_, 1) := by decide +kernel
theorem dX1_changePlaces_0 : decode cX1_changePlaces 0 = .ok (.aload_n 0, 1) := by decide +kernel
theorem dX1_changePlaces_1 : decode cX1_changePlaces 1 = .ok (.getfield 28, 3) := by decide +kernel
theorem dX1_changePlaces_4 : decode cX1_changePlaces 4 = .ok (.iload_n 1, 1) := by decide +kernel
theorem dX1_changePlaces_5 : decode cX1_changePlaces 5 = .ok (.iaload, 1) := by decide +kernel
theorem dX1_changePlaces_6 : decode cX1_changePlaces 6 = .ok (.istore_n 3, 1) := by decide +kernel
theorem dX1_changePlaces_7 : decode cX1_changePlaces 7 = .ok (.aload_n 0, 1) := by decide +kernel
theorem dX1_changePlaces_8 : decode cX1_changePlaces 8 = .ok (.getfield 28, 3) := by decide +kernel
theorem dX1_changePlaces_11 : decode cX1_changePlaces 11 = .ok (.iload_n 1, 1) := by decide +kernel
theorem dX1_changePlaces_12 : decode cX1_changePlaces 12 = .ok (.aload_n 0, 1) := by decide +kernel
theorem dX1_changePlaces_13 : decode cX1_changePlaces 13 = .ok (.getfield 28, 3) := by decide +kernel
theorem dX1_changePlaces_16 : decode cX1_changePlaces 16 = .ok (.iload_n 2, 1) := by decide +kernel
theorem dX1_changePlaces_17 : decode cX1_changePlaces 17 = .ok (.iaload, 1) := by decide +kernel
theorem dX1_changePlaces_18 : decode cX1_changePlaces 18 = .ok (.iastore, 1) := by decide +kernel
theorem dX1_changePlaces_19 : decode cX1_changePlaces 19 = .ok (.aload_n 0, 1) := by decide +kernel
theorem dX1_changePlaces_20 : decode cX1_changePlaces 20 = .ok (.getfield 28, 3) := by decide +kernel
theorem dX1_changePlaces_23 : decode cX1_changePlaces 23 = .ok (.iload_n 2, 1) := by decide +kernel
theorem dX1_changePlaces_24 : decode cX1_changePlaces 24 = .ok (.iload_n 3, 1) := by decide +kernel
theorem dX1_changePlaces_25 : decode cX1_changePlaces 25 = .ok (.iastore, 1) := by decide +kernel
theorem dX1_changePlaces_26 : decode cX1_changePlaces 26 = .ok (.return_, 1) := by decide +kernel
set_option maxRecDepth 20000 in
theorem ggX1_stitchesInAll_X8_isIn : GoodIn wsX1_stitchesInAll wsX8_isIn := goodIn_r _ [5] rfl (by decide +kernel)
set_option maxRecDepth 20000 in
theorem gX1_stitchesInAll_X8_isIn_n35 : GoodIn wsX1_stitchesInAll (wsX8_isIn) := ggX1_stitchesInAll_X8_isIn
set_option maxRecDepth 20000 in
theorem ggX1_stitchesInAll_J6_bitCount_0f7a4 : GoodIn wsX1_stitchesInAll wsJ6_bitCount_0f7a4 := goodIn_r _ [9, 10, 11, 12] rfl (by decide +kernel)
set_option maxRecDepth 20000 in
theorem gX1_stitchesInAll_J6_bitCount_0f7a4 : GoodIn wsX1_stitchesInAll (va_wsS RX1 39 yJ6_bitCount_0f7a4 wsJ6_bitCount_0f7a4) := goodIn_app (goodIn_r _ [6, 7, 8] rfl (by decide +kernel)) ggX1_stitchesInAll_J6_bitCount_0f7a4
theorem dX1_stitchesInAll_0 : decode cX1_stitchesInAll 0 = .ok (.iconst 0, 1) := by decide +kernel
theorem dX1_stitchesInAll_1 : decode cX1_stitchesInAll 1 = .ok (.istore_n 1, 1) := by decide +kernel
theorem dX1_stitchesInAll_2 : decode cX1_stitchesInAll 2 = .ok (.iconst 0, 1) := by decide +kernel
theorem dX1_stitchesInAll_3 : decode cX1_stitchesInAll 3 = .ok (.istore_n 2, 1) := by decide +kernel
theorem dX1_stitchesInAll_4 : decode cX1_stitchesInAll 4 = .ok (.iload_n 2, 1) := by decide +kernel
theorem dX1_stitchesInAll_5 : decode cX1_stitchesInAll 5 = .ok (.bipush 10, 2) := by decide +kernel
theorem dX1_stitchesInAll_7 : decode cX1_stitchesInAll 7 = .ok (.if_icmp .ge 32, 3) := by decide +kernel
theorem dX1_stitchesInAll_10 : decode cX1_stitchesInAll 10 = .ok (.aload_n 0, 1) := by decide +kernel
theorem dX1_stitchesInAll_11 : decode cX1_stitchesInAll 11 = .ok (.getfield 9, 3) := by decide +kernel
theorem dX1_stitchesInAll_14 : decode cX1_stitchesInAll 14 = .ok (.iload_n 2, 1) := by decide +kernel
theorem dX1_stitchesInAll_15 : decode cX1_stitchesInAll 15 = .ok (.invokestatic 35, 3) := by decide +kernel
theorem dX1_stitchesInAll_18 : decode cX1_stitchesInAll 18 = .ok (.ifCond .eq 15, 3) := by decide +kernel
theorem dX1_stitchesInAll_21 : decode cX1_stitchesInAll 21 = .ok (.iload_n 1, 1) := by decide +kernel
theorem dX1_stitchesInAll_22 : decode cX1_stitchesInAll 22 = .ok (.aload_n 0, 1) := by decide +kernel
theorem dX1_stitchesInAll_23 : decode cX1_stitchesInAll 23 = .ok (.getfield 25, 3) := by decide +kernel
theorem dX1_stitchesInAll_26 : decode cX1_stitchesInAll 26 = .ok (.iload_n 2, 1) := by decide +kernel
theorem dX1_stitchesInAll_27 : decode cX1_stitchesInAll 27 = .ok (.iaload, 1) := by decide +kernel
theorem dX1_stitchesInAll_28 : decode cX1_stitchesInAll 28 = .ok (.invokestatic 39, 3) := by decide +kernel
theorem dX1_stitchesInAll_31 : decode cX1_stitchesInAll 31 = .ok (.iadd, 1) := by decide +kernel
theorem dX1_stitchesInAll_32 : decode cX1_stitchesInAll 32 = .ok (.istore_n 1, 1) := by decide +kernel
theorem dX1_stitchesInAll_33 : decode cX1_stitchesInAll 33 = .ok (.iinc 2 1, 3) := by decide +kernel
theorem dX1_stitchesInAll_36 : decode cX1_stitchesInAll 36 = .ok (.goto (-32), 3) := by decide +kernel
theorem dX1_stitchesInAll_39 : decode cX1_stitchesInAll 39 = .ok (.iload_n 1, 1) := by decide +kernel
theorem dX1_stitchesInAll_40 : decode cX1_stitchesInAll 40 = .ok (.ireturn, 1) := by decide +kernel
set_option maxRecDepth 20000 in
theorem ggX1_howManyHaveSome_X8_isIn : GoodIn wsX1_howManyHaveSome wsX8_isIn := goodIn_r _ [5] rfl (by decide +kernel)
set_option maxRecDepth 20000 in
theorem gX1_howManyHaveSome_X8_isIn_n35 : GoodIn wsX1_howManyHaveSome (wsX8_isIn) := ggX1_howManyHaveSome_X8_isIn
theorem dX1_howManyHaveSome_0 : decode cX1_howManyHaveSome 0 = .ok (.iconst 0, 1) := by decide +kernel
theorem dX1_howManyHaveSome_1 : decode cX1_howManyHaveSome 1 = .ok (.istore_n 2, 1) := by decide +kernel
theorem dX1_howManyHaveSome_2 : decode cX1_howManyHaveSome 2 = .ok (.iconst 0, 1) := by decide +kernel
theorem dX1_howManyHaveSome_3 : decode cX1_howManyHaveSome 3 = .ok (.istore_n 3, 1) := by decide +kernel
theorem dX1_howManyHaveSome_4 : decode cX1_howManyHaveSome 4 = .ok (.iload_n 3, 1) := by decide +kernel
theorem dX1_howManyHaveSome_5 : decode cX1_howManyHaveSome 5 = .ok (.bipush 10, 2) := by decide +kernel
theorem dX1_howManyHaveSome_7 : decode cX1_howManyHaveSome 7 = .ok (.if_icmp .ge 34, 3) := by decide +kernel
theorem dX1_howManyHaveSome_10 : decode cX1_howManyHaveSome 10 = .ok (.aload_n 0, 1) := by decide +kernel
theorem dX1_howManyHaveSome_11 : decode cX1_howManyHaveSome 11 = .ok (.getfield 9, 3) := by decide +kernel
theorem dX1_howManyHaveSome_14 : decode cX1_howManyHaveSome 14 = .ok (.iload_n 3, 1) := by decide +kernel
theorem dX1_howManyHaveSome_15 : decode cX1_howManyHaveSome 15 = .ok (.invokestatic 35, 3) := by decide +kernel
theorem dX1_howManyHaveSome_18 : decode cX1_howManyHaveSome 18 = .ok (.ifCond .eq 17, 3) := by decide +kernel
theorem dX1_howManyHaveSome_21 : decode cX1_howManyHaveSome 21 = .ok (.aload_n 0, 1) := by decide +kernel
theorem dX1_howManyHaveSome_22 : decode cX1_howManyHaveSome 22 = .ok (.getfield 25, 3) := by decide +kernel
theorem dX1_howManyHaveSome_25 : decode cX1_howManyHaveSome 25 = .ok (.iload_n 3, 1) := by decide +kernel
theorem dX1_howManyHaveSome_26 : decode cX1_howManyHaveSome 26 = .ok (.iaload, 1) := by decide +kernel
theorem dX1_howManyHaveSome_27 : decode cX1_howManyHaveSome 27 = .ok (.iload_n 1, 1) := by decide +kernel
theorem dX1_howManyHaveSome_28 : decode cX1_howManyHaveSome 28 = .ok (.iand, 1) := by decide +kernel
theorem dX1_howManyHaveSome_29 : decode cX1_howManyHaveSome 29 = .ok (.ifCond .eq 6, 3) := by decide +kernel
theorem dX1_howManyHaveSome_32 : decode cX1_howManyHaveSome 32 = .ok (.iinc 2 1, 3) := by decide +kernel
theorem dX1_howManyHaveSome_35 : decode cX1_howManyHaveSome 35 = .ok (.iinc 3 1, 3) := by decide +kernel
theorem dX1_howManyHaveSome_38 : decode cX1_howManyHaveSome 38 = .ok (.goto (-34), 3) := by decide +kernel
theorem dX1_howManyHaveSome_41 : decode cX1_howManyHaveSome 41 = .ok (.iload_n 2, 1) := by decide +kernel
theorem dX1_howManyHaveSome_42 : decode cX1_howManyHaveSome 42 = .ok (.ireturn, 1) := by decide +kernel
set_option maxRecDepth 20000 in
theorem ggX1_bordersInPlaces_X1_whoIsAt : GoodIn wsX1_bordersInPlaces wsX1_whoIsAt := goodIn_r _ [6, 7, 8, 9, 10, 11, 19, 20, 21, 22, 23, 24] rfl (by decide +kernel)
set_option maxRecDepth 20000 in
theorem gX1_bordersInPlaces_X1_whoIsAt : GoodIn wsX1_bordersInPlaces (wsV RX1 45 RX1 yX1_whoIsAt wsX1_whoIsAt) := goodIn_app (goodIn_r _ [2, 3, 4, 5] rfl (by decide +kernel)) ggX1_bordersInPlaces_X1_whoIsAt
set_option maxRecDepth 20000 in
theorem ggX1_bordersInPlaces_J6_bitCount_0f7a4 : GoodIn wsX1_bordersInPlaces wsJ6_bitCount_0f7a4 := goodIn_r _ [15, 16, 17, 18] rfl (by decide +kernel)
set_option maxRecDepth 20000 in
theorem gX1_bordersInPlaces_J6_bitCount_0f7a4 : GoodIn wsX1_bordersInPlaces (va_wsS RX1 39 yJ6_bitCount_0f7a4 wsJ6_bitCount_0f7a4) := goodIn_app (goodIn_r _ [12, 13, 14] rfl (by decide +kernel)) ggX1_bordersInPlaces_J6_bitCount_0f7a4
theorem dX1_bordersInPlaces_0 : decode cX1_bordersInPlaces 0 = .ok (.iconst 0, 1) := by decide +kernel
theorem dX1_bordersInPlaces_1 : decode cX1_bordersInPlaces 1 = .ok (.istore_n 1, 1) := by decide +kernel
theorem dX1_bordersInPlaces_2 : decode cX1_bordersInPlaces 2 = .ok (.bipush (-6), 2) := by decide +kernel
theorem dX1_bordersInPlaces_4 : decode cX1_bordersInPlaces 4 = .ok (.istore_n 2, 1) := by decide +kernel
theorem dX1_bordersInPlaces_5 : decode cX1_bordersInPlaces 5 = .ok (.iconst 0, 1) := by decide +kernel
theorem dX1_bordersInPlaces_6 : decode cX1_bordersInPlaces 6 = .ok (.istore_n 3, 1) := by decide +kernel
theorem dX1_bordersInPlaces_7 : decode cX1_bordersInPlaces 7 = .ok (.iload_n 3, 1) := by decide +kernel
theorem dX1_bordersInPlaces_8 : decode cX1_bordersInPlaces 8 = .ok (.bipush 10, 2) := by decide +kernel
theorem dX1_bordersInPlaces_10 : decode cX1_bordersInPlaces 10 = .ok (.if_icmp .ge 56, 3) := by decide +kernel
theorem dX1_bordersInPlaces_13 : decode cX1_bordersInPlaces 13 = .ok (.aload_n 0, 1) := by decide +kernel
theorem dX1_bordersInPlaces_14 : decode cX1_bordersInPlaces 14 = .ok (.iload_n 3, 1) := by decide +kernel
theorem dX1_bordersInPlaces_15 : decode cX1_bordersInPlaces 15 = .ok (.invokevirtual 45, 3) := by decide +kernel
theorem dX1_bordersInPlaces_18 : decode cX1_bordersInPlaces 18 = .ok (.istore 4, 2) := by decide +kernel
theorem dX1_bordersInPlaces_20 : decode cX1_bordersInPlaces 20 = .ok (.iload 4, 2) := by decide +kernel
theorem dX1_bordersInPlaces_22 : decode cX1_bordersInPlaces 22 = .ok (.bipush (-6), 2) := by decide +kernel
theorem dX1_bordersInPlaces_24 : decode cX1_bordersInPlaces 24 = .ok (.if_icmp .eq 36, 3) := by decide +kernel
theorem dX1_bordersInPlaces_27 : decode cX1_bordersInPlaces 27 = .ok (.iload_n 1, 1) := by decide +kernel
theorem dX1_bordersInPlaces_28 : decode cX1_bordersInPlaces 28 = .ok (.iload_n 2, 1) := by decide +kernel
theorem dX1_bordersInPlaces_29 : decode cX1_bordersInPlaces 29 = .ok (.bipush (-6), 2) := by decide +kernel
theorem dX1_bordersInPlaces_31 : decode cX1_bordersInPlaces 31 = .ok (.if_icmp .ne 7, 3) := by decide +kernel
theorem dX1_bordersInPlaces_34 : decode cX1_bordersInPlaces 34 = .ok (.iconst 0, 1) := by decide +kernel
theorem dX1_bordersInPlaces_35 : decode cX1_bordersInPlaces 35 = .ok (.goto 15, 3) := by decide +kernel
theorem dX1_bordersInPlaces_38 : decode cX1_bordersInPlaces 38 = .ok (.iload_n 2, 1) := by decide +kernel
theorem dX1_bordersInPlaces_39 : decode cX1_bordersInPlaces 39 = .ok (.aload_n 0, 1) := by decide +kernel
theorem dX1_bordersInPlaces_40 : decode cX1_bordersInPlaces 40 = .ok (.getfield 25, 3) := by decide +kernel
theorem dX1_bordersInPlaces_43 : decode cX1_bordersInPlaces 43 = .ok (.iload 4, 2) := by decide +kernel
theorem dX1_bordersInPlaces_45 : decode cX1_bordersInPlaces 45 = .ok (.iaload, 1) := by decide +kernel
theorem dX1_bordersInPlaces_46 : decode cX1_bordersInPlaces 46 = .ok (.ixor, 1) := by decide +kernel
theorem dX1_bordersInPlaces_47 : decode cX1_bordersInPlaces 47 = .ok (.invokestatic 39, 3) := by decide +kernel
theorem dX1_bordersInPlaces_50 : decode cX1_bordersInPlaces 50 = .ok (.iadd, 1) := by decide +kernel
theorem dX1_bordersInPlaces_51 : decode cX1_bordersInPlaces 51 = .ok (.istore_n 1, 1) := by decide +kernel
theorem dX1_bordersInPlaces_52 : decode cX1_bordersInPlaces 52 = .ok (.aload_n 0, 1) := by decide +kernel
theorem dX1_bordersInPlaces_53 : decode cX1_bordersInPlaces 53 = .ok (.getfield 25, 3) := by decide +kernel
theorem dX1_bordersInPlaces_56 : decode cX1_bordersInPlaces 56 = .ok (.iload 4, 2) := by decide +kernel
theorem dX1_bordersInPlaces_58 : decode cX1_bordersInPlaces 58 = .ok (.iaload, 1) := by decide +kernel
theorem dX1_bordersInPlaces_59 : decode cX1_bordersInPlaces 59 = .ok (.istore_n 2, 1) := by decide +kernel
theorem dX1_bordersInPlaces_60 : decode cX1_bordersInPlaces 60 = .ok (.iinc 3 1, 3) := by decide +kernel
theorem dX1_bordersInPlaces_63 : decode cX1_bordersInPlaces 63 = .ok (.goto (-56), 3) := by decide +kernel
theorem dX1_bordersInPlaces_66 : decode cX1_bordersInPlaces 66 = .ok (.iload_n 1, 1) := by decide +kernel
theorem dX1_bordersInPlaces_67 : decode cX1_bordersInPlaces 67 = .ok (.ireturn, 1) := by decide +kernel
set_option maxRecDepth 20000 in
theorem ggX1_whoIsAt_X8_isIn : GoodIn wsX1_whoIsAt wsX8_isIn := goodIn_r _ [5] rfl (by decide +kernel)
set_option maxRecDepth 20000 in
theorem gX1_whoIsAt_X8_isIn_n35 : GoodIn wsX1_whoIsAt (wsX8_isIn) := ggX1_whoIsAt_X8_isIn
theorem dX1_whoIsAt_0 : decode cX1_whoIsAt 0 = .ok (.iconst 0, 1) := by decide +kernel
theorem dX1_whoIsAt_1 : decode cX1_whoIsAt 1 = .ok (.istore_n 2, 1) := by decide +kernel
theorem dX1_whoIsAt_2 : decode cX1_whoIsAt 2 = .ok (.iload_n 2, 1) := by decide +kernel
theorem dX1_whoIsAt_3 : decode cX1_whoIsAt 3 = .ok (.bipush 10, 2) := by decide +kernel
theorem dX1_whoIsAt_5 : decode cX1_whoIsAt 5 = .ok (.if_icmp .ge 32, 3) := by decide +kernel
theorem dX1_whoIsAt_8 : decode cX1_whoIsAt 8 = .ok (.aload_n 0, 1) := by decide +kernel
theorem dX1_whoIsAt_9 : decode cX1_whoIsAt 9 = .ok (.getfield 28, 3) := by decide +kernel
theorem dX1_whoIsAt_12 : decode cX1_whoIsAt 12 = .ok (.iload_n 2, 1) := by decide +kernel
theorem dX1_whoIsAt_13 : decode cX1_whoIsAt 13 = .ok (.iaload, 1) := by decide +kernel
theorem dX1_whoIsAt_14 : decode cX1_whoIsAt 14 = .ok (.iload_n 1, 1) := by decide +kernel
theorem dX1_whoIsAt_15 : decode cX1_whoIsAt 15 = .ok (.if_icmp .ne 16, 3) := by decide +kernel
theorem dX1_whoIsAt_18 : decode cX1_whoIsAt 18 = .ok (.aload_n 0, 1) := by decide +kernel
theorem dX1_whoIsAt_19 : decode cX1_whoIsAt 19 = .ok (.getfield 9, 3) := by decide +kernel
theorem dX1_whoIsAt_22 : decode cX1_whoIsAt 22 = .ok (.iload_n 2, 1) := by decide +kernel
theorem dX1_whoIsAt_23 : decode cX1_whoIsAt 23 = .ok (.invokestatic 35, 3) := by decide +kernel
theorem dX1_whoIsAt_26 : decode cX1_whoIsAt 26 = .ok (.ifCond .eq 5, 3) := by decide +kernel
theorem dX1_whoIsAt_29 : decode cX1_whoIsAt 29 = .ok (.iload_n 2, 1) := by decide +kernel
theorem dX1_whoIsAt_30 : decode cX1_whoIsAt 30 = .ok (.ireturn, 1) := by decide +kernel
theorem dX1_whoIsAt_31 : decode cX1_whoIsAt 31 = .ok (.iinc 2 1, 3) := by decide +kernel
theorem dX1_whoIsAt_34 : decode cX1_whoIsAt 34 = .ok (.goto (-32), 3) := by decide +kernel
theorem dX1_whoIsAt_37 : decode cX1_whoIsAt 37 = .ok (.bipush (-6), 2) := by decide +kernel
theorem dX1_whoIsAt_39 : decode cX1_whoIsAt 39 = .ok (.ireturn, 1) := by decide +kernel
set_option maxRecDepth 20000 in
theorem ggX1_attempt_X1_whyNot : GoodIn wsX1_attempt wsX1_whyNot := goodIn_r _ [5, 6, 7, 8, 9, 10, 11, 4, 12, 13, 14, 15, 16, 17, 18, 19, 20, 21, 22, 23, 24, 25, 26, 27, 28, 29, 59, 60, 61, 62, 63, 64] rfl (by decide +kernel)
set_option maxRecDepth 20000 in
theorem gX1_attempt_X1_whyNot : GoodIn wsX1_attempt (wsV RX1 48 RX1 yX1_whyNot wsX1_whyNot) := goodIn_app (goodIn_r _ [1, 2, 3, 4] rfl (by decide +kernel)) ggX1_attempt_X1_whyNot
set_option maxRecDepth 20000 in
theorem ggX1_attempt_X1_perform : GoodIn wsX1_attempt wsX1_perform := goodIn_r _ [33, 8, 34, 35, 36, 37, 7, 38, 39, 40, 41, 4, 42, 43, 44, 45, 46, 13, 47, 48, 49, 50, 51, 52, 53, 54, 55, 6, 17, 15, 18, 56, 57, 58, 59, 60, 61, 62, 63, 64] rfl (by decide +kernel)
set_option maxRecDepth 20000 in
theorem gX1_attempt_X1_perform : GoodIn wsX1_attempt (wsV RX1 52 RX1 yX1_perform wsX1_perform) := goodIn_app (goodIn_r _ [30, 31, 32, 4] rfl (by decide +kernel)) ggX1_attempt_X1_perform
theorem dX1_attempt_0 : decode cX1_attempt 0 = .ok (.aload_n 0, 1) := by decide +kernel
theorem dX1_attempt_1 : decode cX1_attempt 1 = .ok (.iload_n 1, 1) := by decide +kernel
theorem dX1_attempt_2 : decode cX1_attempt 2 = .ok (.iload_n 2, 1) := by decide +kernel
theorem dX1_attempt_3 : decode cX1_attempt 3 = .ok (.iload_n 3, 1) := by decide +kernel
theorem dX1_attempt_4 : decode cX1_attempt 4 = .ok (.invokevirtual 48, 3) := by decide +kernel
theorem dX1_attempt_7 : decode cX1_attempt 7 = .ok (.istore 4, 2) := by decide +kernel
theorem dX1_attempt_9 : decode cX1_attempt 9 = .ok (.iload 4, 2) := by decide +kernel
theorem dX1_attempt_11 : decode cX1_attempt 11 = .ok (.ifCond .ne 10, 3) := by decide +kernel
theorem dX1_attempt_14 : decode cX1_attempt 14 = .ok (.aload_n 0, 1) := by decide +kernel
theorem dX1_attempt_15 : decode cX1_attempt 15 = .ok (.iload_n 1, 1) := by decide +kernel
theorem dX1_attempt_16 : decode cX1_attempt 16 = .ok (.iload_n 2, 1) := by decide +kernel
theorem dX1_attempt_17 : decode cX1_attempt 17 = .ok (.iload_n 3, 1) := by decide +kernel
theorem dX1_attempt_18 : decode cX1_attempt 18 = .ok (.invokevirtual 52, 3) := by decide +kernel
theorem dX1_attempt_21 : decode cX1_attempt 21 = .ok (.iload 4, 2) := by decide +kernel
theorem dX1_attempt_23 : decode cX1_attempt 23 = .ok (.ireturn, 1) := by decide +kernel
set_option maxRecDepth 20000 in
theorem ggX1_whyNot_X1_isThere : GoodIn wsX1_whyNot wsX1_isThere := goodIn_r _ [8, 9, 10, 11, 12, 13, 14, 26, 27, 28, 29, 30, 31] rfl (by decide +kernel)
set_option maxRecDepth 20000 in
theorem gX1_whyNot_X1_isThere : GoodIn wsX1_whyNot (wsV RX1 56 RX1 yX1_isThere wsX1_isThere) := goodIn_app (goodIn_r _ [4, 5, 6, 7] rfl (by decide +kernel)) ggX1_whyNot_X1_isThere
set_option maxRecDepth 20000 in
theorem ggX1_whyNot_X1_howMany : GoodIn wsX1_whyNot wsX1_howMany := goodIn_r _ [18, 9, 19, 20, 21, 22, 23, 24, 25, 26, 27, 28, 29, 30, 31] rfl (by decide +kernel)
set_option maxRecDepth 20000 in
theorem gX1_whyNot_X1_howMany : GoodIn wsX1_whyNot (wsV RX1 59 RX1 yX1_howMany wsX1_howMany) := goodIn_app (goodIn_r _ [15, 16, 17, 7] rfl (by decide +kernel)) ggX1_whyNot_X1_howMany
theorem dX1_whyNot_0 : decode cX1_whyNot 0 = .ok (.iload_n 1, 1) := by decide +kernel
theorem dX1_whyNot_1 : decode cX1_whyNot 1 = .ok (.bipush 6, 2) := by decide +kernel
theorem dX1_whyNot_3 : decode cX1_whyNot 3 = .ok (.if_icmp .ne 19, 3) := by decide +kernel
theorem dX1_whyNot_6 : decode cX1_whyNot 6 = .ok (.aload_n 0, 1) := by decide +kernel
theorem dX1_whyNot_7 : decode cX1_whyNot 7 = .ok (.getfield 18, 3) := by decide +kernel
theorem dX1_whyNot_10 : decode cX1_whyNot 10 = .ok (.bipush 99, 2) := by decide +kernel
theorem dX1_whyNot_12 : decode cX1_whyNot 12 = .ok (.if_icmp .lt 8, 3) := by decide +kernel
theorem dX1_whyNot_15 : decode cX1_whyNot 15 = .ok (.bipush 6, 2) := by decide +kernel
theorem dX1_whyNot_17 : decode cX1_whyNot 17 = .ok (.goto 4, 3) := by decide +kernel
theorem dX1_whyNot_20 : decode cX1_whyNot 20 = .ok (.iconst 0, 1) := by decide +kernel
theorem dX1_whyNot_21 : decode cX1_whyNot 21 = .ok (.ireturn, 1) := by decide +kernel
theorem dX1_whyNot_22 : decode cX1_whyNot 22 = .ok (.aload_n 0, 1) := by decide +kernel
theorem dX1_whyNot_23 : decode cX1_whyNot 23 = .ok (.iload_n 2, 1) := by decide +kernel
theorem dX1_whyNot_24 : decode cX1_whyNot 24 = .ok (.invokevirtual 56, 3) := by decide +kernel
theorem dX1_whyNot_27 : decode cX1_whyNot 27 = .ok (.ifCond .ne 5, 3) := by decide +kernel
theorem dX1_whyNot_30 : decode cX1_whyNot 30 = .ok (.iconst 1, 1) := by decide +kernel
theorem dX1_whyNot_31 : decode cX1_whyNot 31 = .ok (.ireturn, 1) := by decide +kernel
theorem dX1_whyNot_32 : decode cX1_whyNot 32 = .ok (.iload_n 1, 1) := by decide +kernel
theorem dX1_whyNot_33 : decode cX1_whyNot 33 = .ok (.tableswitch 97 1 5 #[35, 97, 62, 62, 83], 35) := by decide +kernel
theorem dX1_whyNot_68 : decode cX1_whyNot 68 = .ok (.aload_n 0, 1) := by decide +kernel
theorem dX1_whyNot_69 : decode cX1_whyNot 69 = .ok (.getfield 15, 3) := by decide +kernel
theorem dX1_whyNot_72 : decode cX1_whyNot 72 = .ok (.iconst 5, 1) := by decide +kernel
theorem dX1_whyNot_73 : decode cX1_whyNot 73 = .ok (.if_icmp .ge 5, 3) := by decide +kernel
theorem dX1_whyNot_76 : decode cX1_whyNot 76 = .ok (.iconst 2, 1) := by decide +kernel
theorem dX1_whyNot_77 : decode cX1_whyNot 77 = .ok (.ireturn, 1) := by decide +kernel
theorem dX1_whyNot_78 : decode cX1_whyNot 78 = .ok (.aload_n 0, 1) := by decide +kernel
theorem dX1_whyNot_79 : decode cX1_whyNot 79 = .ok (.getfield 21, 3) := by decide +kernel
theorem dX1_whyNot_82 : decode cX1_whyNot 82 = .ok (.iload_n 2, 1) := by decide +kernel
theorem dX1_whyNot_83 : decode cX1_whyNot 83 = .ok (.iaload, 1) := by decide +kernel
theorem dX1_whyNot_84 : decode cX1_whyNot 84 = .ok (.bipush 99, 2) := by decide +kernel
theorem dX1_whyNot_86 : decode cX1_whyNot 86 = .ok (.if_icmp .lt 7, 3) := by decide +kernel
theorem dX1_whyNot_89 : decode cX1_whyNot 89 = .ok (.iconst 3, 1) := by decide +kernel
theorem dX1_whyNot_90 : decode cX1_whyNot 90 = .ok (.goto 4, 3) := by decide +kernel
theorem dX1_whyNot_93 : decode cX1_whyNot 93 = .ok (.iconst 0, 1) := by decide +kernel
theorem dX1_whyNot_94 : decode cX1_whyNot 94 = .ok (.ireturn, 1) := by decide +kernel
theorem dX1_whyNot_95 : decode cX1_whyNot 95 = .ok (.aload_n 0, 1) := by decide +kernel
theorem dX1_whyNot_96 : decode cX1_whyNot 96 = .ok (.iload_n 3, 1) := by decide +kernel
theorem dX1_whyNot_97 : decode cX1_whyNot 97 = .ok (.invokevirtual 56, 3) := by decide +kernel
theorem dX1_whyNot_100 : decode cX1_whyNot 100 = .ok (.ifCond .ne 5, 3) := by decide +kernel
theorem dX1_whyNot_103 : decode cX1_whyNot 103 = .ok (.iconst 1, 1) := by decide +kernel
theorem dX1_whyNot_104 : decode cX1_whyNot 104 = .ok (.ireturn, 1) := by decide +kernel
theorem dX1_whyNot_105 : decode cX1_whyNot 105 = .ok (.iload_n 2, 1) := by decide +kernel
theorem dX1_whyNot_106 : decode cX1_whyNot 106 = .ok (.iload_n 3, 1) := by decide +kernel
theorem dX1_whyNot_107 : decode cX1_whyNot 107 = .ok (.if_icmp .ne 7, 3) := by decide +kernel
theorem dX1_whyNot_110 : decode cX1_whyNot 110 = .ok (.iconst 4, 1) := by decide +kernel
theorem dX1_whyNot_111 : decode cX1_whyNot 111 = .ok (.goto 4, 3) := by decide +kernel
theorem dX1_whyNot_114 : decode cX1_whyNot 114 = .ok (.iconst 0, 1) := by decide +kernel
theorem dX1_whyNot_115 : decode cX1_whyNot 115 = .ok (.ireturn, 1) := by decide +kernel
theorem dX1_whyNot_116 : decode cX1_whyNot 116 = .ok (.aload_n 0, 1) := by decide +kernel
theorem dX1_whyNot_117 : decode cX1_whyNot 117 = .ok (.invokevirtual 59, 3) := by decide +kernel
theorem dX1_whyNot_120 : decode cX1_whyNot 120 = .ok (.iconst 1, 1) := by decide +kernel
theorem dX1_whyNot_121 : decode cX1_whyNot 121 = .ok (.if_icmp .ne 7, 3) := by decide +kernel
theorem dX1_whyNot_124 : decode cX1_whyNot 124 = .ok (.iconst 5, 1) := by decide +kernel
theorem dX1_whyNot_125 : decode cX1_whyNot 125 = .ok (.goto 4, 3) := by decide +kernel
theorem dX1_whyNot_128 : decode cX1_whyNot 128 = .ok (.iconst 0, 1) := by decide +kernel
theorem dX1_whyNot_129 : decode cX1_whyNot 129 = .ok (.ireturn, 1) := by decide +kernel
theorem dX1_whyNot_130 : decode cX1_whyNot 130 = .ok (.iconst 0, 1) := by decide +kernel
theorem dX1_whyNot_131 : decode cX1_whyNot 131 = .ok (.ireturn, 1) := by decide +kernel
set_option maxRecDepth 20000 in
theorem ggX1_perform_X1_kneelOn : GoodIn wsX1_perform wsX1_kneelOn := goodIn_r _ [12, 1, 13, 14, 15, 11, 16, 17, 34, 35, 36, 37, 38, 39] rfl (by decide +kernel)
set_option maxRecDepth 20000 in
theorem gX1_perform_X1_kneelOn : GoodIn wsX1_perform (wsV RX1 63 RX1 yX1_kneelOn wsX1_kneelOn) := goodIn_app (goodIn_r _ [8, 9, 10, 11] rfl (by decide +kernel)) ggX1_perform_X1_kneelOn
set_option maxRecDepth 20000 in
theorem ggX1_perform_X1_takeAway : GoodIn wsX1_perform wsX1_takeAway := goodIn_r _ [16, 17, 34, 35, 36, 37, 38, 39] rfl (by decide +kernel)
set_option maxRecDepth 20000 in
theorem gX1_perform_X1_takeAway : GoodIn wsX1_perform (wsV RX1 73 RX1 yX1_takeAway wsX1_takeAway) := goodIn_app (goodIn_r _ [13, 14, 15, 11] rfl (by decide +kernel)) ggX1_perform_X1_takeAway
set_option maxRecDepth 20000 in
theorem ggX1_perform_X1_changePlaces : GoodIn wsX1_perform wsX1_changePlaces := goodIn_r _ [21, 22, 34, 35, 36, 37, 38, 39] rfl (by decide +kernel)
set_option maxRecDepth 20000 in
theorem gX1_perform_X1_changePlaces : GoodIn wsX1_perform (wsV RX1 77 RX1 yX1_changePlaces wsX1_changePlaces) := goodIn_app (goodIn_r _ [18, 19, 20, 11] rfl (by decide +kernel)) ggX1_perform_X1_changePlaces
set_option maxRecDepth 20000 in
theorem ggX1_perform_X1_passYear : GoodIn wsX1_perform wsX1_passYear := goodIn_r _ [26, 27, 17, 1, 7, 6, 2, 3, 4, 5, 28, 29, 30, 31, 32, 11, 33, 34, 35, 36, 37, 38, 39] rfl (by decide +kernel)
set_option maxRecDepth 20000 in
theorem gX1_perform_X1_passYear : GoodIn wsX1_perform (wsV RX1 80 RX1 yX1_passYear wsX1_passYear) := goodIn_app (goodIn_r _ [23, 24, 25, 11] rfl (by decide +kernel)) ggX1_perform_X1_passYear
theorem dX1_perform_0 : decode cX1_perform 0 = .ok (.iload_n 1, 1) := by decide +kernel
theorem dX1_perform_1 : decode cX1_perform 1 = .ok (.tableswitch 177 0 5 #[39, 48, 81, 96, 143, 152], 39) := by decide +kernel
theorem dX1_perform_40 : decode cX1_perform 40 = .ok (.aload_n 0, 1) := by decide +kernel
theorem dX1_perform_41 : decode cX1_perform 41 = .ok (.iload_n 2, 1) := by decide +kernel
theorem dX1_perform_42 : decode cX1_perform 42 = .ok (.iload_n 3, 1) := by decide +kernel
theorem dX1_perform_43 : decode cX1_perform 43 = .ok (.invokevirtual 63, 3) := by decide +kernel
theorem dX1_perform_46 : decode cX1_perform 46 = .ok (.goto 136, 3) := by decide +kernel
theorem dX1_perform_49 : decode cX1_perform 49 = .ok (.aload_n 0, 1) := by decide +kernel
theorem dX1_perform_50 : decode cX1_perform 50 = .ok (.getfield 21, 3) := by decide +kernel
theorem dX1_perform_53 : decode cX1_perform 53 = .ok (.iload_n 2, 1) := by decide +kernel
theorem dX1_perform_54 : decode cX1_perform 54 = .ok (.bipush 99, 2) := by decide +kernel
theorem dX1_perform_56 : decode cX1_perform 56 = .ok (.aload_n 0, 1) := by decide +kernel
theorem dX1_perform_57 : decode cX1_perform 57 = .ok (.getfield 21, 3) := by decide +kernel
theorem dX1_perform_60 : decode cX1_perform 60 = .ok (.iload_n 2, 1) := by decide +kernel
theorem dX1_perform_61 : decode cX1_perform 61 = .ok (.iaload, 1) := by decide +kernel
theorem dX1_perform_62 : decode cX1_perform 62 = .ok (.bipush 20, 2) := by decide +kernel
theorem dX1_perform_64 : decode cX1_perform 64 = .ok (.iadd, 1) := by decide +kernel
theorem dX1_perform_65 : decode cX1_perform 65 = .ok (.invokestatic 67, 3) := by decide +kernel
theorem dX1_perform_68 : decode cX1_perform 68 = .ok (.iastore, 1) := by decide +kernel
theorem dX1_perform_69 : decode cX1_perform 69 = .ok (.aload_n 0, 1) := by decide +kernel
theorem dX1_perform_70 : decode cX1_perform 70 = .ok (.dup, 1) := by decide +kernel
theorem dX1_perform_71 : decode cX1_perform 71 = .ok (.getfield 15, 3) := by decide +kernel
theorem dX1_perform_74 : decode cX1_perform 74 = .ok (.iconst 5, 1) := by decide +kernel
theorem dX1_perform_75 : decode cX1_perform 75 = .ok (.isub, 1) := by decide +kernel
theorem dX1_perform_76 : decode cX1_perform 76 = .ok (.putfield 15, 3) := by decide +kernel
theorem dX1_perform_79 : decode cX1_perform 79 = .ok (.goto 103, 3) := by decide +kernel
theorem dX1_perform_82 : decode cX1_perform 82 = .ok (.aload_n 0, 1) := by decide +kernel
theorem dX1_perform_83 : decode cX1_perform 83 = .ok (.getfield 25, 3) := by decide +kernel
theorem dX1_perform_86 : decode cX1_perform 86 = .ok (.iload_n 2, 1) := by decide +kernel
theorem dX1_perform_87 : decode cX1_perform 87 = .ok (.dup2, 1) := by decide +kernel
theorem dX1_perform_88 : decode cX1_perform 88 = .ok (.iaload, 1) := by decide +kernel
theorem dX1_perform_89 : decode cX1_perform 89 = .ok (.iconst 1, 1) := by decide +kernel
theorem dX1_perform_90 : decode cX1_perform 90 = .ok (.iload_n 3, 1) := by decide +kernel
theorem dX1_perform_91 : decode cX1_perform 91 = .ok (.ishl, 1) := by decide +kernel
theorem dX1_perform_92 : decode cX1_perform 92 = .ok (.ixor, 1) := by decide +kernel
theorem dX1_perform_93 : decode cX1_perform 93 = .ok (.iastore, 1) := by decide +kernel
theorem dX1_perform_94 : decode cX1_perform 94 = .ok (.goto 88, 3) := by decide +kernel
theorem dX1_perform_97 : decode cX1_perform 97 = .ok (.aload_n 0, 1) := by decide +kernel
theorem dX1_perform_98 : decode cX1_perform 98 = .ok (.getfield 21, 3) := by decide +kernel
theorem dX1_perform_101 : decode cX1_perform 101 = .ok (.iload_n 2, 1) := by decide +kernel
theorem dX1_perform_102 : decode cX1_perform 102 = .ok (.bipush 99, 2) := by decide +kernel
theorem dX1_perform_104 : decode cX1_perform 104 = .ok (.aload_n 0, 1) := by decide +kernel
theorem dX1_perform_105 : decode cX1_perform 105 = .ok (.getfield 21, 3) := by decide +kernel
theorem dX1_perform_108 : decode cX1_perform 108 = .ok (.iload_n 2, 1) := by decide +kernel
theorem dX1_perform_109 : decode cX1_perform 109 = .ok (.iaload, 1) := by decide +kernel
theorem dX1_perform_110 : decode cX1_perform 110 = .ok (.aload_n 0, 1) := by decide +kernel
theorem dX1_perform_111 : decode cX1_perform 111 = .ok (.getfield 21, 3) := by decide +kernel
theorem dX1_perform_114 : decode cX1_perform 114 = .ok (.iload_n 3, 1) := by decide +kernel
theorem dX1_perform_115 : decode cX1_perform 115 = .ok (.iaload, 1) := by decide +kernel
theorem dX1_perform_116 : decode cX1_perform 116 = .ok (.iadd, 1) := by decide +kernel
theorem dX1_perform_117 : decode cX1_perform 117 = .ok (.invokestatic 67, 3) := by decide +kernel
theorem dX1_perform_120 : decode cX1_perform 120 = .ok (.iastore, 1) := by decide +kernel
theorem dX1_perform_121 : decode cX1_perform 121 = .ok (.aload_n 0, 1) := by decide +kernel
theorem dX1_perform_122 : decode cX1_perform 122 = .ok (.getfield 25, 3) := by decide +kernel
theorem dX1_perform_125 : decode cX1_perform 125 = .ok (.iload_n 2, 1) := by decide +kernel
theorem dX1_perform_126 : decode cX1_perform 126 = .ok (.dup2, 1) := by decide +kernel
theorem dX1_perform_127 : decode cX1_perform 127 = .ok (.iaload, 1) := by decide +kernel
theorem dX1_perform_128 : decode cX1_perform 128 = .ok (.aload_n 0, 1) := by decide +kernel
theorem dX1_perform_129 : decode cX1_perform 129 = .ok (.getfield 25, 3) := by decide +kernel
theorem dX1_perform_132 : decode cX1_perform 132 = .ok (.iload_n 3, 1) := by decide +kernel
theorem dX1_perform_133 : decode cX1_perform 133 = .ok (.iaload, 1) := by decide +kernel
theorem dX1_perform_134 : decode cX1_perform 134 = .ok (.ior, 1) := by decide +kernel
theorem dX1_perform_135 : decode cX1_perform 135 = .ok (.iastore, 1) := by decide +kernel
theorem dX1_perform_136 : decode cX1_perform 136 = .ok (.aload_n 0, 1) := by decide +kernel
theorem dX1_perform_137 : decode cX1_perform 137 = .ok (.iload_n 3, 1) := by decide +kernel
theorem dX1_perform_138 : decode cX1_perform 138 = .ok (.invokevirtual 73, 3) := by decide +kernel
theorem dX1_perform_141 : decode cX1_perform 141 = .ok (.goto 41, 3) := by decide +kernel
theorem dX1_perform_144 : decode cX1_perform 144 = .ok (.aload_n 0, 1) := by decide +kernel
theorem dX1_perform_145 : decode cX1_perform 145 = .ok (.iload_n 2, 1) := by decide +kernel
theorem dX1_perform_146 : decode cX1_perform 146 = .ok (.iload_n 3, 1) := by decide +kernel
theorem dX1_perform_147 : decode cX1_perform 147 = .ok (.invokevirtual 77, 3) := by decide +kernel
theorem dX1_perform_150 : decode cX1_perform 150 = .ok (.goto 32, 3) := by decide +kernel
theorem dX1_perform_153 : decode cX1_perform 153 = .ok (.aload_n 0, 1) := by decide +kernel
theorem dX1_perform_154 : decode cX1_perform 154 = .ok (.iload_n 2, 1) := by decide +kernel
theorem dX1_perform_155 : decode cX1_perform 155 = .ok (.invokevirtual 73, 3) := by decide +kernel
theorem dX1_perform_158 : decode cX1_perform 158 = .ok (.aload_n 0, 1) := by decide +kernel
theorem dX1_perform_159 : decode cX1_perform 159 = .ok (.sipush 999, 3) := by decide +kernel
theorem dX1_perform_162 : decode cX1_perform 162 = .ok (.aload_n 0, 1) := by decide +kernel
theorem dX1_perform_163 : decode cX1_perform 163 = .ok (.getfield 15, 3) := by decide +kernel
theorem dX1_perform_166 : decode cX1_perform 166 = .ok (.bipush 10, 2) := by decide +kernel
theorem dX1_perform_168 : decode cX1_perform 168 = .ok (.iadd, 1) := by decide +kernel
theorem dX1_perform_169 : decode cX1_perform 169 = .ok (.invokestatic 67, 3) := by decide +kernel
theorem dX1_perform_172 : decode cX1_perform 172 = .ok (.putfield 15, 3) := by decide +kernel
theorem dX1_perform_175 : decode cX1_perform 175 = .ok (.goto 7, 3) := by decide +kernel
theorem dX1_perform_178 : decode cX1_perform 178 = .ok (.aload_n 0, 1) := by decide +kernel
theorem dX1_perform_179 : decode cX1_perform 179 = .ok (.invokevirtual 80, 3) := by decide +kernel
theorem dX1_perform_182 : decode cX1_perform 182 = .ok (.return_, 1) := by decide +kernel
set_option maxRecDepth 20000 in
theorem ggX1_kneelOn_X1_takeAway : GoodIn wsX1_kneelOn wsX1_takeAway := goodIn_r _ [6, 7, 8, 9, 10, 11, 12, 13] rfl (by decide +kernel)
set_option maxRecDepth 20000 in
theorem gX1_kneelOn_X1_takeAway : GoodIn wsX1_kneelOn (wsV RX1 73 RX1 yX1_takeAway wsX1_takeAway) := goodIn_app (goodIn_r _ [2, 3, 4, 5] rfl (by decide +kernel)) ggX1_kneelOn_X1_takeAway
theorem dX1_kneelOn_0 : decode cX1_kneelOn 0 = .ok (.aload_n 0, 1) := by decide +kernel
theorem dX1_kneelOn_1 : decode cX1_kneelOn 1 = .ok (.getfield 21, 3) := by decide +kernel
theorem dX1_kneelOn_4 : decode cX1_kneelOn 4 = .ok (.iload_n 1, 1) := by decide +kernel
theorem dX1_kneelOn_5 : decode cX1_kneelOn 5 = .ok (.dup2, 1) := by decide +kernel
theorem dX1_kneelOn_6 : decode cX1_kneelOn 6 = .ok (.iaload, 1) := by decide +kernel
theorem dX1_kneelOn_7 : decode cX1_kneelOn 7 = .ok (.iconst 3, 1) := by decide +kernel
theorem dX1_kneelOn_8 : decode cX1_kneelOn 8 = .ok (.iload_n 2, 1) := by decide +kernel
theorem dX1_kneelOn_9 : decode cX1_kneelOn 9 = .ok (.imul, 1) := by decide +kernel
theorem dX1_kneelOn_10 : decode cX1_kneelOn 10 = .ok (.isub, 1) := by decide +kernel
theorem dX1_kneelOn_11 : decode cX1_kneelOn 11 = .ok (.iastore, 1) := by decide +kernel
theorem dX1_kneelOn_12 : decode cX1_kneelOn 12 = .ok (.aload_n 0, 1) := by decide +kernel
theorem dX1_kneelOn_13 : decode cX1_kneelOn 13 = .ok (.getfield 21, 3) := by decide +kernel
theorem dX1_kneelOn_16 : decode cX1_kneelOn 16 = .ok (.iload_n 1, 1) := by decide +kernel
theorem dX1_kneelOn_17 : decode cX1_kneelOn 17 = .ok (.iaload, 1) := by decide +kernel
theorem dX1_kneelOn_18 : decode cX1_kneelOn 18 = .ok (.ifCond .gt 8, 3) := by decide +kernel
theorem dX1_kneelOn_21 : decode cX1_kneelOn 21 = .ok (.aload_n 0, 1) := by decide +kernel
theorem dX1_kneelOn_22 : decode cX1_kneelOn 22 = .ok (.iload_n 1, 1) := by decide +kernel
theorem dX1_kneelOn_23 : decode cX1_kneelOn 23 = .ok (.invokevirtual 73, 3) := by decide +kernel
theorem dX1_kneelOn_26 : decode cX1_kneelOn 26 = .ok (.return_, 1) := by decide +kernel
set_option maxRecDepth 20000 in
theorem ggX1_passYear_X8_isIn : GoodIn wsX1_passYear wsX8_isIn := goodIn_r _ [12] rfl (by decide +kernel)
set_option maxRecDepth 20000 in
theorem gX1_passYear_X8_isIn_n35 : GoodIn wsX1_passYear (wsX8_isIn) := ggX1_passYear_X8_isIn
set_option maxRecDepth 20000 in
theorem ggX1_passYear_X1_withoutHighest : GoodIn wsX1_passYear wsX1_withoutHighest := goodIn_r _ [16, 10, 11, 12] rfl (by decide +kernel)
set_option maxRecDepth 20000 in
theorem gX1_passYear_X1_withoutHighest : GoodIn wsX1_passYear (va_wsS RX1 83 yX1_withoutHighest wsX1_withoutHighest) := goodIn_app (goodIn_r _ [13, 14, 15] rfl (by decide +kernel)) ggX1_passYear_X1_withoutHighest
theorem dX1_passYear_0 : decode cX1_passYear 0 = .ok (.aload_n 0, 1) := by decide +kernel
theorem dX1_passYear_1 : decode cX1_passYear 1 = .ok (.dup, 1) := by decide +kernel
theorem dX1_passYear_2 : decode cX1_passYear 2 = .ok (.getfield 18, 3) := by decide +kernel
theorem dX1_passYear_5 : decode cX1_passYear 5 = .ok (.iconst 1, 1) := by decide +kernel
theorem dX1_passYear_6 : decode cX1_passYear 6 = .ok (.iadd, 1) := by decide +kernel
theorem dX1_passYear_7 : decode cX1_passYear 7 = .ok (.putfield 18, 3) := by decide +kernel
theorem dX1_passYear_10 : decode cX1_passYear 10 = .ok (.iconst 0, 1) := by decide +kernel
theorem dX1_passYear_11 : decode cX1_passYear 11 = .ok (.istore_n 1, 1) := by decide +kernel
theorem dX1_passYear_12 : decode cX1_passYear 12 = .ok (.iload_n 1, 1) := by decide +kernel
theorem dX1_passYear_13 : decode cX1_passYear 13 = .ok (.bipush 10, 2) := by decide +kernel
theorem dX1_passYear_15 : decode cX1_passYear 15 = .ok (.if_icmp .ge 97, 3) := by decide +kernel
theorem dX1_passYear_18 : decode cX1_passYear 18 = .ok (.aload_n 0, 1) := by decide +kernel
theorem dX1_passYear_19 : decode cX1_passYear 19 = .ok (.getfield 9, 3) := by decide +kernel
theorem dX1_passYear_22 : decode cX1_passYear 22 = .ok (.iload_n 1, 1) := by decide +kernel
theorem dX1_passYear_23 : decode cX1_passYear 23 = .ok (.invokestatic 35, 3) := by decide +kernel
theorem dX1_passYear_26 : decode cX1_passYear 26 = .ok (.ifCond .eq 32, 3) := by decide +kernel
theorem dX1_passYear_29 : decode cX1_passYear 29 = .ok (.aload_n 0, 1) := by decide +kernel
theorem dX1_passYear_30 : decode cX1_passYear 30 = .ok (.getfield 21, 3) := by decide +kernel
theorem dX1_passYear_33 : decode cX1_passYear 33 = .ok (.iload_n 1, 1) := by decide +kernel
theorem dX1_passYear_34 : decode cX1_passYear 34 = .ok (.iaload, 1) := by decide +kernel
theorem dX1_passYear_35 : decode cX1_passYear 35 = .ok (.bipush 20, 2) := by decide +kernel
theorem dX1_passYear_37 : decode cX1_passYear 37 = .ok (.if_icmp .ge 21, 3) := by decide +kernel
theorem dX1_passYear_40 : decode cX1_passYear 40 = .ok (.aload_n 0, 1) := by decide +kernel
theorem dX1_passYear_41 : decode cX1_passYear 41 = .ok (.getfield 25, 3) := by decide +kernel
theorem dX1_passYear_44 : decode cX1_passYear 44 = .ok (.iload_n 1, 1) := by decide +kernel
theorem dX1_passYear_45 : decode cX1_passYear 45 = .ok (.aload_n 0, 1) := by decide +kernel
theorem dX1_passYear_46 : decode cX1_passYear 46 = .ok (.getfield 25, 3) := by decide +kernel
theorem dX1_passYear_49 : decode cX1_passYear 49 = .ok (.iload_n 1, 1) := by decide +kernel
theorem dX1_passYear_50 : decode cX1_passYear 50 = .ok (.iaload, 1) := by decide +kernel
theorem dX1_passYear_51 : decode cX1_passYear 51 = .ok (.invokestatic 83, 3) := by decide +kernel
theorem dX1_passYear_54 : decode cX1_passYear 54 = .ok (.iastore, 1) := by decide +kernel
theorem dX1_passYear_55 : decode cX1_passYear 55 = .ok (.goto 51, 3) := by decide +kernel
theorem dX1_passYear_58 : decode cX1_passYear 58 = .ok (.aload_n 0, 1) := by decide +kernel
theorem dX1_passYear_59 : decode cX1_passYear 59 = .ok (.getfield 9, 3) := by decide +kernel
theorem dX1_passYear_62 : decode cX1_passYear 62 = .ok (.iload_n 1, 1) := by decide +kernel
theorem dX1_passYear_63 : decode cX1_passYear 63 = .ok (.invokestatic 35, 3) := by decide +kernel
theorem dX1_passYear_66 : decode cX1_passYear 66 = .ok (.ifCond .eq 40, 3) := by decide +kernel
theorem dX1_passYear_69 : decode cX1_passYear 69 = .ok (.aload_n 0, 1) := by decide +kernel
theorem dX1_passYear_70 : decode cX1_passYear 70 = .ok (.getfield 21, 3) := by decide +kernel
theorem dX1_passYear_73 : decode cX1_passYear 73 = .ok (.iload_n 1, 1) := by decide +kernel
theorem dX1_passYear_74 : decode cX1_passYear 74 = .ok (.iaload, 1) := by decide +kernel
theorem dX1_passYear_75 : decode cX1_passYear 75 = .ok (.bipush 50, 2) := by decide +kernel
theorem dX1_passYear_77 : decode cX1_passYear 77 = .ok (.if_icmp .lt 29, 3) := by decide +kernel
theorem dX1_passYear_80 : decode cX1_passYear 80 = .ok (.aload_n 0, 1) := by decide +kernel
theorem dX1_passYear_81 : decode cX1_passYear 81 = .ok (.getfield 21, 3) := by decide +kernel
theorem dX1_passYear_84 : decode cX1_passYear 84 = .ok (.iload_n 1, 1) := by decide +kernel
theorem dX1_passYear_85 : decode cX1_passYear 85 = .ok (.dup2, 1) := by decide +kernel
theorem dX1_passYear_86 : decode cX1_passYear 86 = .ok (.iaload, 1) := by decide +kernel
theorem dX1_passYear_87 : decode cX1_passYear 87 = .ok (.iconst 1, 1) := by decide +kernel
theorem dX1_passYear_88 : decode cX1_passYear 88 = .ok (.isub, 1) := by decide +kernel
theorem dX1_passYear_89 : decode cX1_passYear 89 = .ok (.iastore, 1) := by decide +kernel
theorem dX1_passYear_90 : decode cX1_passYear 90 = .ok (.aload_n 0, 1) := by decide +kernel
theorem dX1_passYear_91 : decode cX1_passYear 91 = .ok (.sipush 999, 3) := by decide +kernel
theorem dX1_passYear_94 : decode cX1_passYear 94 = .ok (.aload_n 0, 1) := by decide +kernel
theorem dX1_passYear_95 : decode cX1_passYear 95 = .ok (.getfield 15, 3) := by decide +kernel
theorem dX1_passYear_98 : decode cX1_passYear 98 = .ok (.iconst 1, 1) := by decide +kernel
theorem dX1_passYear_99 : decode cX1_passYear 99 = .ok (.iadd, 1) := by decide +kernel
theorem dX1_passYear_100 : decode cX1_passYear 100 = .ok (.invokestatic 67, 3) := by decide +kernel
theorem dX1_passYear_103 : decode cX1_passYear 103 = .ok (.putfield 15, 3) := by decide +kernel
theorem dX1_passYear_106 : decode cX1_passYear 106 = .ok (.iinc 1 1, 3) := by decide +kernel
theorem dX1_passYear_109 : decode cX1_passYear 109 = .ok (.goto (-97), 3) := by decide +kernel
theorem dX1_passYear_112 : decode cX1_passYear 112 = .ok (.return_, 1) := by decide +kernel
set_option maxRecDepth 20000 in
theorem ggX1_withoutHighest_X8_isIn : GoodIn wsX1_withoutHighest wsX8_isIn := goodIn_r _ [3] rfl (by decide +kernel)
set_option maxRecDepth 20000 in
theorem gX1_withoutHighest_X8_isIn_n35 : GoodIn wsX1_withoutHighest (wsX8_isIn) := ggX1_withoutHighest_X8_isIn
theorem dX1_withoutHighest_0 : decode cX1_withoutHighest 0 = .ok (.bipush 7, 2) := by decide +kernel
theorem dX1_withoutHighest_2 : decode cX1_withoutHighest 2 = .ok (.istore_n 1, 1) := by decide +kernel
theorem dX1_withoutHighest_3 : decode cX1_withoutHighest 3 = .ok (.iload_n 1, 1) := by decide +kernel
theorem dX1_withoutHighest_4 : decode cX1_withoutHighest 4 = .ok (.ifCond .lt 23, 3) := by decide +kernel
theorem dX1_withoutHighest_7 : decode cX1_withoutHighest 7 = .ok (.iload_n 0, 1) := by decide +kernel
theorem dX1_withoutHighest_8 : decode cX1_withoutHighest 8 = .ok (.iload_n 1, 1) := by decide +kernel
theorem dX1_withoutHighest_9 : decode cX1_withoutHighest 9 = .ok (.invokestatic 35, 3) := by decide +kernel
theorem dX1_withoutHighest_12 : decode cX1_withoutHighest 12 = .ok (.ifCond .eq 9, 3) := by decide +kernel
theorem dX1_withoutHighest_15 : decode cX1_withoutHighest 15 = .ok (.iload_n 0, 1) := by decide +kernel
theorem dX1_withoutHighest_16 : decode cX1_withoutHighest 16 = .ok (.iconst 1, 1) := by decide +kernel
theorem dX1_withoutHighest_17 : decode cX1_withoutHighest 17 = .ok (.iload_n 1, 1) := by decide +kernel
theorem dX1_withoutHighest_18 : decode cX1_withoutHighest 18 = .ok (.ishl, 1) := by decide +kernel
theorem dX1_withoutHighest_19 : decode cX1_withoutHighest 19 = .ok (.ixor, 1) := by decide +kernel
theorem dX1_withoutHighest_20 : decode cX1_withoutHighest 20 = .ok (.ireturn, 1) := by decide +kernel
theorem dX1_withoutHighest_21 : decode cX1_withoutHighest 21 = .ok (.iinc 1 (-1), 3) := by decide +kernel
theorem dX1_withoutHighest_24 : decode cX1_withoutHighest 24 = .ok (.goto (-21), 3) := by decide +kernel
theorem dX1_withoutHighest_27 : decode cX1_withoutHighest 27 = .ok (.iload_n 0, 1) := by decide +kernel
theorem dX1_withoutHighest_28 : decode cX1_withoutHighest 28 = .ok (.ireturn, 1) := by decide +kernel
set_option maxRecDepth 20000 in
theorem ggX2_init_X1_init : GoodIn wsX2_init wsX1_init := goodIn_r _ [15, 16, 2, 3, 17, 18, 19, 20, 21, 22, 23, 33, 34, 35, 36, 37, 38] rfl (by decide +kernel)
set_option maxRecDepth 20000 in
theorem gX2_init_X1_init : GoodIn wsX2_init (wsX1_init) := ggX2_init_X1_init
set_option maxRecDepth 20000 in
theorem ggX2_init_X4_init : GoodIn wsX2_init wsX4_init := goodIn_r _ [25, 26, 2, 3, 27, 20, 28, 29, 39, 40, 41] rfl (by decide +kernel)
set_option maxRecDepth 20000 in
theorem gX2_init_X4_init_n22 : GoodIn wsX2_init (wsX4_init) := ggX2_init_X4_init
theorem dX2_init_0 : decode cX2_init 0 = .ok (.aload_n 0, 1) := by decide +kernel
theorem dX2_init_1 : decode cX2_init 1 = .ok (.invokespecial 1, 3) := by decide +kernel
theorem dX2_init_4 : decode cX2_init 4 = .ok (.aload_n 0, 1) := by decide +kernel
theorem dX2_init_5 : decode cX2_init 5 = .ok (.iconst 0, 1) := by decide +kernel
theorem dX2_init_6 : decode cX2_init 6 = .ok (.putfield 7, 3) := by decide +kernel
theorem dX2_init_9 : decode cX2_init 9 = .ok (.aload_n 0, 1) := by decide +kernel
theorem dX2_init_10 : decode cX2_init 10 = .ok (.new 13, 3) := by decide +kernel
theorem dX2_init_13 : decode cX2_init 13 = .ok (.dup, 1) := by decide +kernel
theorem dX2_init_14 : decode cX2_init 14 = .ok (.invokespecial 15, 3) := by decide +kernel
theorem dX2_init_17 : decode cX2_init 17 = .ok (.putfield 16, 3) := by decide +kernel
theorem dX2_init_20 : decode cX2_init 20 = .ok (.aload_n 0, 1) := by decide +kernel
theorem dX2_init_21 : decode cX2_init 21 = .ok (.new 20, 3) := by decide +kernel
theorem dX2_init_24 : decode cX2_init 24 = .ok (.dup, 1) := by decide +kernel
theorem dX2_init_25 : decode cX2_init 25 = .ok (.invokespecial 22, 3) := by decide +kernel
theorem dX2_init_28 : decode cX2_init 28 = .ok (.putfield 23, 3) := by decide +kernel
theorem dX2_init_31 : decode cX2_init 31 = .ok (.return_, 1) := by decide +kernel
set_option maxRecDepth 20000 in
theorem ggX2_keep_X1_copyFrom : GoodIn wsX2_keep wsX1_copyFrom := goodIn_r _ [8, 9, 10, 11, 12, 13, 14, 26, 27, 28, 29, 30, 31] rfl (by decide +kernel)
set_option maxRecDepth 20000 in
theorem gX2_keep_X1_copyFrom : GoodIn wsX2_keep (wsV RX2 27 RX1 yX1_copyFrom wsX1_copyFrom) := goodIn_app (goodIn_r _ [4, 5, 6, 7] rfl (by decide +kernel)) ggX2_keep_X1_copyFrom
set_option maxRecDepth 20000 in
theorem ggX2_keep_X4_copyFrom : GoodIn wsX2_keep wsX4_copyFrom := goodIn_r _ [19, 20, 21, 22, 32, 33, 34] rfl (by decide +kernel)
set_option maxRecDepth 20000 in
theorem gX2_keep_X4_copyFrom : GoodIn wsX2_keep (wsV RX2 31 RX4 yX4_copyFrom wsX4_copyFrom) := goodIn_app (goodIn_r _ [15, 16, 17, 18] rfl (by decide +kernel)) ggX2_keep_X4_copyFrom
theorem dX2_keep_0 : decode cX2_keep 0 = .ok (.aload_n 0, 1) := by decide +kernel
theorem dX2_keep_1 : decode cX2_keep 1 = .ok (.getfield 16, 3) := by decide +kernel
theorem dX2_keep_4 : decode cX2_keep 4 = .ok (.aload_n 1, 1) := by decide +kernel
theorem dX2_keep_5 : decode cX2_keep 5 = .ok (.invokevirtual 27, 3) := by decide +kernel
theorem dX2_keep_8 : decode cX2_keep 8 = .ok (.aload_n 0, 1) := by decide +kernel
theorem dX2_keep_9 : decode cX2_keep 9 = .ok (.getfield 23, 3) := by decide +kernel
theorem dX2_keep_12 : decode cX2_keep 12 = .ok (.aload_n 2, 1) := by decide +kernel
theorem dX2_keep_13 : decode cX2_keep 13 = .ok (.invokevirtual 31, 3) := by decide +kernel
theorem dX2_keep_16 : decode cX2_keep 16 = .ok (.aload_n 0, 1) := by decide +kernel
theorem dX2_keep_17 : decode cX2_keep 17 = .ok (.iconst 1, 1) := by decide +kernel
theorem dX2_keep_18 : decode cX2_keep 18 = .ok (.putfield 7, 3) := by decide +kernel
theorem dX2_keep_21 : decode cX2_keep 21 = .ok (.return_, 1) := by decide +kernel
set_option maxRecDepth 20000 in
theorem ggX2_bringBack_X1_copyFrom : GoodIn wsX2_bringBack wsX1_copyFrom := goodIn_r _ [8, 9, 10, 11, 12, 13, 14, 26, 27, 28, 29, 30, 31] rfl (by decide +kernel)
set_option maxRecDepth 20000 in
theorem gX2_bringBack_X1_copyFrom : GoodIn wsX2_bringBack (wsV RX2 27 RX1 yX1_copyFrom wsX1_copyFrom) := goodIn_app (goodIn_r _ [4, 5, 6, 7] rfl (by decide +kernel)) ggX2_bringBack_X1_copyFrom
set_option maxRecDepth 20000 in
theorem ggX2_bringBack_X4_copyFrom : GoodIn wsX2_bringBack wsX4_copyFrom := goodIn_r _ [19, 20, 21, 22, 32, 33, 34] rfl (by decide +kernel)
set_option maxRecDepth 20000 in
theorem gX2_bringBack_X4_copyFrom : GoodIn wsX2_bringBack (wsV RX2 31 RX4 yX4_copyFrom wsX4_copyFrom) := goodIn_app (goodIn_r _ [15, 16, 17, 18] rfl (by decide +kernel)) ggX2_bringBack_X4_copyFrom
theorem dX2_bringBack_0 : decode cX2_bringBack 0 = .ok (.aload_n 0, 1) := by decide +kernel
theorem dX2_bringBack_1 : decode cX2_bringBack 1 = .ok (.getfield 7, 3) := by decide +kernel
theorem dX2_bringBack_4 : decode cX2_bringBack 4 = .ok (.ifCond .eq 19, 3) := by decide +kernel
theorem dX2_bringBack_7 : decode cX2_bringBack 7 = .ok (.aload_n 1, 1) := by decide +kernel
theorem dX2_bringBack_8 : decode cX2_bringBack 8 = .ok (.aload_n 0, 1) := by decide +kernel
theorem dX2_bringBack_9 : decode cX2_bringBack 9 = .ok (.getfield 16, 3) := by decide +kernel
theorem dX2_bringBack_12 : decode cX2_bringBack 12 = .ok (.invokevirtual 27, 3) := by decide +kernel
theorem dX2_bringBack_15 : decode cX2_bringBack 15 = .ok (.aload_n 2, 1) := by decide +kernel
theorem dX2_bringBack_16 : decode cX2_bringBack 16 = .ok (.aload_n 0, 1) := by decide +kernel
theorem dX2_bringBack_17 : decode cX2_bringBack 17 = .ok (.getfield 23, 3) := by decide +kernel
theorem dX2_bringBack_20 : decode cX2_bringBack 20 = .ok (.invokevirtual 31, 3) := by decide +kernel
theorem dX2_bringBack_23 : decode cX2_bringBack 23 = .ok (.aload_n 0, 1) := by decide +kernel
theorem dX2_bringBack_24 : decode cX2_bringBack 24 = .ok (.getfield 7, 3) := by decide +kernel
theorem dX2_bringBack_27 : decode cX2_bringBack 27 = .ok (.ireturn, 1) := by decide +kernel
theorem dX3_init_0 : decode cX3_init 0 = .ok (.aload_n 0, 1) := by decide +kernel
theorem dX3_init_1 : decode cX3_init 1 = .ok (.invokespecial 3, 3) := by decide +kernel
theorem dX3_init_4 : decode cX3_init 4 = .ok (.aload_n 0, 1) := by decide +kernel
theorem dX3_init_5 : decode cX3_init 5 = .ok (.iconst 0, 1) := by decide +kernel
theorem dX3_init_6 : decode cX3_init 6 = .ok (.putfield 9, 3) := by decide +kernel
theorem dX3_init_9 : decode cX3_init 9 = .ok (.aload_n 0, 1) := by decide +kernel
theorem dX3_init_10 : decode cX3_init 10 = .ok (.bipush 60, 2) := by decide +kernel
theorem dX3_init_12 : decode cX3_init 12 = .ok (.newarray .int, 2) := by decide +kernel
theorem dX3_init_14 : decode cX3_init 14 = .ok (.putfield 15, 3) := by decide +kernel
theorem dX3_init_17 : decode cX3_init 17 = .ok (.return_, 1) := by decide +kernel
theorem dX3_write_0 : decode cX3_write 0 = .ok (.aload_n 0, 1) := by decide +kernel
theorem dX3_write_1 : decode cX3_write 1 = .ok (.getfield 9, 3) := by decide +kernel
theorem dX3_write_4 : decode cX3_write 4 = .ok (.bipush 60, 2) := by decide +kernel
theorem dX3_write_6 : decode cX3_write 6 = .ok (.if_icmp .lt 5, 3) := by decide +kernel
theorem dX3_write_9 : decode cX3_write 9 = .ok (.iconst 0, 1) := by decide +kernel
theorem dX3_write_10 : decode cX3_write 10 = .ok (.ireturn, 1) := by decide +kernel
theorem dX3_write_11 : decode cX3_write 11 = .ok (.aload_n 0, 1) := by decide +kernel
theorem dX3_write_12 : decode cX3_write 12 = .ok (.getfield 15, 3) := by decide +kernel
theorem dX3_write_15 : decode cX3_write 15 = .ok (.aload_n 0, 1) := by decide +kernel
theorem dX3_write_16 : decode cX3_write 16 = .ok (.getfield 9, 3) := by decide +kernel
theorem dX3_write_19 : decode cX3_write 19 = .ok (.iload_n 1, 1) := by decide +kernel
theorem dX3_write_20 : decode cX3_write 20 = .ok (.iastore, 1) := by decide +kernel
theorem dX3_write_21 : decode cX3_write 21 = .ok (.aload_n 0, 1) := by decide +kernel
theorem dX3_write_22 : decode cX3_write 22 = .ok (.dup, 1) := by decide +kernel
theorem dX3_write_23 : decode cX3_write 23 = .ok (.getfield 9, 3) := by decide +kernel
theorem dX3_write_26 : decode cX3_write 26 = .ok (.iconst 1, 1) := by decide +kernel
theorem dX3_write_27 : decode cX3_write 27 = .ok (.iadd, 1) := by decide +kernel
theorem dX3_write_28 : decode cX3_write 28 = .ok (.putfield 9, 3) := by decide +kernel
theorem dX3_write_31 : decode cX3_write 31 = .ok (.iconst 1, 1) := by decide +kernel
theorem dX3_write_32 : decode cX3_write 32 = .ok (.ireturn, 1) := by decide +kernel
theorem dX3_clear_0 : decode cX3_clear 0 = .ok (.aload_n 0, 1) := by decide +kernel
theorem dX3_clear_1 : decode cX3_clear 1 = .ok (.iconst 0, 1) := by decide +kernel
theorem dX3_clear_2 : decode cX3_clear 2 = .ok (.putfield 9, 3) := by decide +kernel
theorem dX3_clear_5 : decode cX3_clear 5 = .ok (.return_, 1) := by decide +kernel
set_option maxRecDepth 20000 in
theorem ggX3_firstFault_X3_faultOfAct : GoodIn wsX3_firstFault wsX3_faultOfAct := goodIn_r _ [6, 7, 8, 9, 5, 10, 1, 11, 12, 13, 14, 15, 16, 17, 26, 27] rfl (by decide +kernel)
set_option maxRecDepth 20000 in
theorem gX3_firstFault_X3_faultOfAct : GoodIn wsX3_firstFault (wsV RX3 19 RX3 yX3_faultOfAct wsX3_faultOfAct) := goodIn_app (goodIn_r _ [2, 3, 4, 5] rfl (by decide +kernel)) ggX3_firstFault_X3_faultOfAct
set_option maxRecDepth 20000 in
theorem ggX3_firstFault_X3_lengthAt : GoodIn wsX3_firstFault wsX3_lengthAt := goodIn_r _ [21, 22, 23, 24, 5, 25, 7, 8, 9, 10, 1, 11, 26, 27] rfl (by decide +kernel)
set_option maxRecDepth 20000 in
theorem gX3_firstFault_X3_lengthAt : GoodIn wsX3_firstFault (wsV RX3 23 RX3 yX3_lengthAt wsX3_lengthAt) := goodIn_app (goodIn_r _ [18, 19, 20, 5] rfl (by decide +kernel)) ggX3_firstFault_X3_lengthAt
theorem dX3_firstFault_0 : decode cX3_firstFault 0 = .ok (.iconst 0, 1) := by decide +kernel
theorem dX3_firstFault_1 : decode cX3_firstFault 1 = .ok (.istore_n 1, 1) := by decide +kernel
theorem dX3_firstFault_2 : decode cX3_firstFault 2 = .ok (.iconst 0, 1) := by decide +kernel
theorem dX3_firstFault_3 : decode cX3_firstFault 3 = .ok (.istore_n 2, 1) := by decide +kernel
theorem dX3_firstFault_4 : decode cX3_firstFault 4 = .ok (.iload_n 2, 1) := by decide +kernel
theorem dX3_firstFault_5 : decode cX3_firstFault 5 = .ok (.bipush 60, 2) := by decide +kernel
theorem dX3_firstFault_7 : decode cX3_firstFault 7 = .ok (.if_icmp .ge 39, 3) := by decide +kernel
theorem dX3_firstFault_10 : decode cX3_firstFault 10 = .ok (.iload_n 1, 1) := by decide +kernel
theorem dX3_firstFault_11 : decode cX3_firstFault 11 = .ok (.aload_n 0, 1) := by decide +kernel
theorem dX3_firstFault_12 : decode cX3_firstFault 12 = .ok (.getfield 9, 3) := by decide +kernel
theorem dX3_firstFault_15 : decode cX3_firstFault 15 = .ok (.if_icmp .ge 31, 3) := by decide +kernel
theorem dX3_firstFault_18 : decode cX3_firstFault 18 = .ok (.aload_n 0, 1) := by decide +kernel
theorem dX3_firstFault_19 : decode cX3_firstFault 19 = .ok (.iload_n 1, 1) := by decide +kernel
theorem dX3_firstFault_20 : decode cX3_firstFault 20 = .ok (.invokevirtual 19, 3) := by decide +kernel
theorem dX3_firstFault_23 : decode cX3_firstFault 23 = .ok (.istore_n 3, 1) := by decide +kernel
theorem dX3_firstFault_24 : decode cX3_firstFault 24 = .ok (.iload_n 3, 1) := by decide +kernel
theorem dX3_firstFault_25 : decode cX3_firstFault 25 = .ok (.bipush (-6), 2) := by decide +kernel
theorem dX3_firstFault_27 : decode cX3_firstFault 27 = .ok (.if_icmp .eq 5, 3) := by decide +kernel
theorem dX3_firstFault_30 : decode cX3_firstFault 30 = .ok (.iload_n 3, 1) := by decide +kernel
theorem dX3_firstFault_31 : decode cX3_firstFault 31 = .ok (.ireturn, 1) := by decide +kernel
theorem dX3_firstFault_32 : decode cX3_firstFault 32 = .ok (.iload_n 1, 1) := by decide +kernel
theorem dX3_firstFault_33 : decode cX3_firstFault 33 = .ok (.aload_n 0, 1) := by decide +kernel
theorem dX3_firstFault_34 : decode cX3_firstFault 34 = .ok (.iload_n 1, 1) := by decide +kernel
theorem dX3_firstFault_35 : decode cX3_firstFault 35 = .ok (.invokevirtual 23, 3) := by decide +kernel
theorem dX3_firstFault_38 : decode cX3_firstFault 38 = .ok (.iadd, 1) := by decide +kernel
theorem dX3_firstFault_39 : decode cX3_firstFault 39 = .ok (.istore_n 1, 1) := by decide +kernel
theorem dX3_firstFault_40 : decode cX3_firstFault 40 = .ok (.iinc 2 1, 3) := by decide +kernel
theorem dX3_firstFault_43 : decode cX3_firstFault 43 = .ok (.goto (-39), 3) := by decide +kernel
theorem dX3_firstFault_46 : decode cX3_firstFault 46 = .ok (.bipush (-6), 2) := by decide +kernel
theorem dX3_firstFault_48 : decode cX3_firstFault 48 = .ok (.ireturn, 1) := by decide +kernel
set_option maxRecDepth 20000 in
theorem ggX3_faultOfAct_X3_signAt : GoodIn wsX3_faultOfAct wsX3_signAt := goodIn_r _ [5, 6, 7, 14, 15] rfl (by decide +kernel)
set_option maxRecDepth 20000 in
theorem gX3_faultOfAct_X3_signAt : GoodIn wsX3_faultOfAct (wsV RX3 26 RX3 yX3_signAt wsX3_signAt) := goodIn_app (goodIn_r _ [1, 2, 3, 4] rfl (by decide +kernel)) ggX3_faultOfAct_X3_signAt
set_option maxRecDepth 20000 in
theorem ggX3_faultOfAct_X3_isLetter : GoodIn wsX3_faultOfAct wsX3_isLetter := goodIn_r _ [10, 11, 12, 13] rfl (by decide +kernel)
set_option maxRecDepth 20000 in
theorem gX3_faultOfAct_X3_isLetter : GoodIn wsX3_faultOfAct (va_wsS RX3 29 yX3_isLetter wsX3_isLetter) := goodIn_app (goodIn_r _ [8, 9, 4] rfl (by decide +kernel)) ggX3_faultOfAct_X3_isLetter
set_option maxRecDepth 20000 in
theorem ggX3_faultOfAct_X8_isWithin : GoodIn wsX3_faultOfAct wsX8_isWithin := goodIn_r _ [13] rfl (by decide +kernel)
set_option maxRecDepth 20000 in
theorem gX3_faultOfAct_X8_isWithin_n33 : GoodIn wsX3_faultOfAct (wsX8_isWithin) := ggX3_faultOfAct_X8_isWithin
theorem dX3_faultOfAct_0 : decode cX3_faultOfAct 0 = .ok (.aload_n 0, 1) := by decide +kernel
theorem dX3_faultOfAct_1 : decode cX3_faultOfAct 1 = .ok (.iload_n 1, 1) := by decide +kernel
theorem dX3_faultOfAct_2 : decode cX3_faultOfAct 2 = .ok (.invokevirtual 26, 3) := by decide +kernel
theorem dX3_faultOfAct_5 : decode cX3_faultOfAct 5 = .ok (.bipush 46, 2) := by decide +kernel
theorem dX3_faultOfAct_7 : decode cX3_faultOfAct 7 = .ok (.if_icmp .ne 6, 3) := by decide +kernel
theorem dX3_faultOfAct_10 : decode cX3_faultOfAct 10 = .ok (.bipush (-6), 2) := by decide +kernel
theorem dX3_faultOfAct_12 : decode cX3_faultOfAct 12 = .ok (.ireturn, 1) := by decide +kernel
theorem dX3_faultOfAct_13 : decode cX3_faultOfAct 13 = .ok (.aload_n 0, 1) := by decide +kernel
theorem dX3_faultOfAct_14 : decode cX3_faultOfAct 14 = .ok (.iload_n 1, 1) := by decide +kernel
theorem dX3_faultOfAct_15 : decode cX3_faultOfAct 15 = .ok (.invokevirtual 26, 3) := by decide +kernel
theorem dX3_faultOfAct_18 : decode cX3_faultOfAct 18 = .ok (.invokestatic 29, 3) := by decide +kernel
theorem dX3_faultOfAct_21 : decode cX3_faultOfAct 21 = .ok (.ifCond .ne 5, 3) := by decide +kernel
