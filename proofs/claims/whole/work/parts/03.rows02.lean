theorem dX8_felt_42 : decode cX8_felt 42 = .ok (.goto 5, 3) := by decide +kernel
theorem dX8_felt_45 : decode cX8_felt 45 = .ok (.bipush (-4), 2) := by decide +kernel
theorem dX8_felt_47 : decode cX8_felt 47 = .ok (.ireturn, 1) := by decide +kernel
theorem dX8_forget_0 : decode cX8_forget 0 = .ok (.aload_n 0, 1) := by decide +kernel
theorem dX8_forget_1 : decode cX8_forget 1 = .ok (.getfield 50, 3) := by decide +kernel
theorem dX8_forget_4 : decode cX8_forget 4 = .ok (.getfield 191, 3) := by decide +kernel
theorem dX8_forget_7 : decode cX8_forget 7 = .ok (.istore_n 1, 1) := by decide +kernel
theorem dX8_forget_8 : decode cX8_forget 8 = .ok (.aload_n 0, 1) := by decide +kernel
theorem dX8_forget_9 : decode cX8_forget 9 = .ok (.getfield 50, 3) := by decide +kernel
theorem dX8_forget_12 : decode cX8_forget 12 = .ok (.iconst 0, 1) := by decide +kernel
theorem dX8_forget_13 : decode cX8_forget 13 = .ok (.putfield 191, 3) := by decide +kernel
theorem dX8_forget_16 : decode cX8_forget 16 = .ok (.iload_n 1, 1) := by decide +kernel
theorem dX8_forget_17 : decode cX8_forget 17 = .ok (.ireturn, 1) := by decide +kernel
set_option maxRecDepth 20000 in
theorem ggX8_fits_X6_fit : GoodIn wsX8_fits wsX6_fit := goodIn_r _ [8, 9, 10, 11, 12, 13, 14, 15, 16, 17, 18, 19, 20, 7, 21, 22, 23, 24, 25, 40, 41, 42, 43, 44, 45, 46, 47] rfl (by decide +kernel)
set_option maxRecDepth 20000 in
theorem gX8_fits_X6_fit : GoodIn wsX8_fits (wsV RX8 192 RX6 yX6_fit wsX6_fit) := goodIn_app (goodIn_r _ [4, 5, 6, 7] rfl (by decide +kernel)) ggX8_fits_X6_fit
set_option maxRecDepth 20000 in
theorem ggX8_fits_X6_fitAt : GoodIn wsX8_fits wsX6_fitAt := goodIn_r _ [29, 9, 10, 40, 41, 42, 43, 44] rfl (by decide +kernel)
set_option maxRecDepth 20000 in
theorem gX8_fits_X6_fitAt : GoodIn wsX8_fits (wsV RX8 197 RX6 yX6_fitAt wsX6_fitAt) := goodIn_app (goodIn_r _ [26, 27, 28, 7] rfl (by decide +kernel)) ggX8_fits_X6_fitAt
theorem dX8_fits_0 : decode cX8_fits 0 = .ok (.aload_n 0, 1) := by decide +kernel
theorem dX8_fits_1 : decode cX8_fits 1 = .ok (.getfield 57, 3) := by decide +kernel
theorem dX8_fits_4 : decode cX8_fits 4 = .ok (.aload_n 0, 1) := by decide +kernel
theorem dX8_fits_5 : decode cX8_fits 5 = .ok (.getfield 50, 3) := by decide +kernel
theorem dX8_fits_8 : decode cX8_fits 8 = .ok (.invokevirtual 192, 3) := by decide +kernel
theorem dX8_fits_11 : decode cX8_fits 11 = .ok (.iload_n 1, 1) := by decide +kernel
theorem dX8_fits_12 : decode cX8_fits 12 = .ok (.iconst (-1), 1) := by decide +kernel
theorem dX8_fits_13 : decode cX8_fits 13 = .ok (.if_icmp .ne 13, 3) := by decide +kernel
theorem dX8_fits_16 : decode cX8_fits 16 = .ok (.aload_n 0, 1) := by decide +kernel
theorem dX8_fits_17 : decode cX8_fits 17 = .ok (.getfield 57, 3) := by decide +kernel
theorem dX8_fits_20 : decode cX8_fits 20 = .ok (.getfield 196, 3) := by decide +kernel
theorem dX8_fits_23 : decode cX8_fits 23 = .ok (.goto 11, 3) := by decide +kernel
theorem dX8_fits_26 : decode cX8_fits 26 = .ok (.aload_n 0, 1) := by decide +kernel
theorem dX8_fits_27 : decode cX8_fits 27 = .ok (.getfield 57, 3) := by decide +kernel
theorem dX8_fits_30 : decode cX8_fits 30 = .ok (.iload_n 1, 1) := by decide +kernel
theorem dX8_fits_31 : decode cX8_fits 31 = .ok (.invokevirtual 197, 3) := by decide +kernel
theorem dX8_fits_34 : decode cX8_fits 34 = .ok (.ireturn, 1) := by decide +kernel
set_option maxRecDepth 20000 in
theorem ggX8_ask_X8_isWithin : GoodIn wsX8_ask wsX8_isWithin := goodIn_r _ [8] rfl (by decide +kernel)
set_option maxRecDepth 20000 in
theorem gX8_ask_X8_isWithin : GoodIn wsX8_ask (va_wsS RX8 75 yX8_isWithin wsX8_isWithin) := goodIn_app (goodIn_r _ [5, 6, 7] rfl (by decide +kernel)) ggX8_ask_X8_isWithin
set_option maxRecDepth 20000 in
theorem ggX8_ask_X6_fit : GoodIn wsX8_ask wsX6_fit := goodIn_r _ [13, 14, 15, 16, 17, 18, 19, 20, 21, 22, 23, 24, 25, 12, 26, 27, 28, 29, 30, 53, 54, 55, 56, 57, 58, 59, 60] rfl (by decide +kernel)
set_option maxRecDepth 20000 in
theorem gX8_ask_X6_fit : GoodIn wsX8_ask (wsV RX8 192 RX6 yX6_fit wsX6_fit) := goodIn_app (goodIn_r _ [9, 10, 11, 12] rfl (by decide +kernel)) ggX8_ask_X6_fit
set_option maxRecDepth 20000 in
theorem ggX8_ask_X6_chooseSunday : GoodIn wsX8_ask wsX6_chooseSunday := goodIn_r _ [34, 35, 36, 14, 37, 38, 39, 12, 40, 41, 15, 27, 28, 29, 30, 42, 25, 26, 53, 54, 55, 56, 57] rfl (by decide +kernel)
set_option maxRecDepth 20000 in
theorem gX8_ask_X6_chooseSunday : GoodIn wsX8_ask (wsV RX8 200 RX6 yX6_chooseSunday wsX6_chooseSunday) := goodIn_app (goodIn_r _ [31, 32, 33, 12] rfl (by decide +kernel)) ggX8_ask_X6_chooseSunday
theorem dX8_ask_0 : decode cX8_ask 0 = .ok (.iload_n 1, 1) := by decide +kernel
theorem dX8_ask_1 : decode cX8_ask 1 = .ok (.iconst 0, 1) := by decide +kernel
theorem dX8_ask_2 : decode cX8_ask 2 = .ok (.iconst 1, 1) := by decide +kernel
theorem dX8_ask_3 : decode cX8_ask 3 = .ok (.invokestatic 75, 3) := by decide +kernel
theorem dX8_ask_6 : decode cX8_ask 6 = .ok (.ifCond .ne 6, 3) := by decide +kernel
theorem dX8_ask_9 : decode cX8_ask 9 = .ok (.bipush (-2), 2) := by decide +kernel
theorem dX8_ask_11 : decode cX8_ask 11 = .ok (.ireturn, 1) := by decide +kernel
theorem dX8_ask_12 : decode cX8_ask 12 = .ok (.aload_n 0, 1) := by decide +kernel
theorem dX8_ask_13 : decode cX8_ask 13 = .ok (.getfield 57, 3) := by decide +kernel
theorem dX8_ask_16 : decode cX8_ask 16 = .ok (.aload_n 0, 1) := by decide +kernel
theorem dX8_ask_17 : decode cX8_ask 17 = .ok (.getfield 50, 3) := by decide +kernel
theorem dX8_ask_20 : decode cX8_ask 20 = .ok (.invokevirtual 192, 3) := by decide +kernel
theorem dX8_ask_23 : decode cX8_ask 23 = .ok (.aload_n 0, 1) := by decide +kernel
theorem dX8_ask_24 : decode cX8_ask 24 = .ok (.getfield 57, 3) := by decide +kernel
theorem dX8_ask_27 : decode cX8_ask 27 = .ok (.invokevirtual 200, 3) := by decide +kernel
theorem dX8_ask_30 : decode cX8_ask 30 = .ok (.iload_n 1, 1) := by decide +kernel
theorem dX8_ask_31 : decode cX8_ask 31 = .ok (.ifCond .ne 13, 3) := by decide +kernel
theorem dX8_ask_34 : decode cX8_ask 34 = .ok (.aload_n 0, 1) := by decide +kernel
theorem dX8_ask_35 : decode cX8_ask 35 = .ok (.getfield 57, 3) := by decide +kernel
theorem dX8_ask_38 : decode cX8_ask 38 = .ok (.getfield 203, 3) := by decide +kernel
theorem dX8_ask_41 : decode cX8_ask 41 = .ok (.goto 10, 3) := by decide +kernel
theorem dX8_ask_44 : decode cX8_ask 44 = .ok (.aload_n 0, 1) := by decide +kernel
theorem dX8_ask_45 : decode cX8_ask 45 = .ok (.getfield 57, 3) := by decide +kernel
theorem dX8_ask_48 : decode cX8_ask 48 = .ok (.getfield 206, 3) := by decide +kernel
theorem dX8_ask_51 : decode cX8_ask 51 = .ok (.ireturn, 1) := by decide +kernel
set_option maxRecDepth 20000 in
theorem ggX8_unpick_X1_isThere : GoodIn wsX8_unpick wsX1_isThere := goodIn_r _ [8, 9, 10, 11, 12, 13, 14, 34, 35, 36, 37, 38, 39] rfl (by decide +kernel)
set_option maxRecDepth 20000 in
theorem gX8_unpick_X1_isThere : GoodIn wsX8_unpick (wsV RX8 87 RX1 yX1_isThere wsX1_isThere) := goodIn_app (goodIn_r _ [4, 5, 6, 7] rfl (by decide +kernel)) ggX8_unpick_X1_isThere
set_option maxRecDepth 20000 in
theorem ggX8_unpick_X8_isWithin : GoodIn wsX8_unpick wsX8_isWithin := goodIn_r _ [17] rfl (by decide +kernel)
set_option maxRecDepth 20000 in
theorem gX8_unpick_X8_isWithin : GoodIn wsX8_unpick (va_wsS RX8 75 yX8_isWithin wsX8_isWithin) := goodIn_app (goodIn_r _ [15, 16, 11] rfl (by decide +kernel)) ggX8_unpick_X8_isWithin
set_option maxRecDepth 20000 in
theorem ggX8_unpick_X5_leastWinningMove : GoodIn wsX8_unpick wsX5_leastWinningMove := goodIn_r _ [22, 23, 40] rfl (by decide +kernel)
set_option maxRecDepth 20000 in
theorem gX8_unpick_X5_leastWinningMove : GoodIn wsX8_unpick (wsV RX8 209 RX5 yX5_leastWinningMove wsX5_leastWinningMove) := goodIn_app (goodIn_r _ [18, 19, 20, 21] rfl (by decide +kernel)) ggX8_unpick_X5_leastWinningMove
theorem dX8_unpick_0 : decode cX8_unpick 0 = .ok (.aload_n 0, 1) := by decide +kernel
theorem dX8_unpick_1 : decode cX8_unpick 1 = .ok (.getfield 10, 3) := by decide +kernel
theorem dX8_unpick_4 : decode cX8_unpick 4 = .ok (.iload_n 1, 1) := by decide +kernel
theorem dX8_unpick_5 : decode cX8_unpick 5 = .ok (.invokevirtual 87, 3) := by decide +kernel
theorem dX8_unpick_8 : decode cX8_unpick 8 = .ok (.ifCond .ne 5, 3) := by decide +kernel
theorem dX8_unpick_11 : decode cX8_unpick 11 = .ok (.iconst (-1), 1) := by decide +kernel
theorem dX8_unpick_12 : decode cX8_unpick 12 = .ok (.ireturn, 1) := by decide +kernel
theorem dX8_unpick_13 : decode cX8_unpick 13 = .ok (.iload_n 2, 1) := by decide +kernel
theorem dX8_unpick_14 : decode cX8_unpick 14 = .ok (.iconst 0, 1) := by decide +kernel
theorem dX8_unpick_15 : decode cX8_unpick 15 = .ok (.iconst 1, 1) := by decide +kernel
theorem dX8_unpick_16 : decode cX8_unpick 16 = .ok (.invokestatic 75, 3) := by decide +kernel
theorem dX8_unpick_19 : decode cX8_unpick 19 = .ok (.ifCond .ne 6, 3) := by decide +kernel
theorem dX8_unpick_22 : decode cX8_unpick 22 = .ok (.bipush (-2), 2) := by decide +kernel
theorem dX8_unpick_24 : decode cX8_unpick 24 = .ok (.ireturn, 1) := by decide +kernel
theorem dX8_unpick_25 : decode cX8_unpick 25 = .ok (.aload_n 0, 1) := by decide +kernel
theorem dX8_unpick_26 : decode cX8_unpick 26 = .ok (.getfield 43, 3) := by decide +kernel
theorem dX8_unpick_29 : decode cX8_unpick 29 = .ok (.aload_n 0, 1) := by decide +kernel
theorem dX8_unpick_30 : decode cX8_unpick 30 = .ok (.getfield 10, 3) := by decide +kernel
theorem dX8_unpick_33 : decode cX8_unpick 33 = .ok (.getfield 133, 3) := by decide +kernel
theorem dX8_unpick_36 : decode cX8_unpick 36 = .ok (.iload_n 1, 1) := by decide +kernel
theorem dX8_unpick_37 : decode cX8_unpick 37 = .ok (.iaload, 1) := by decide +kernel
theorem dX8_unpick_38 : decode cX8_unpick 38 = .ok (.invokevirtual 209, 3) := by decide +kernel
theorem dX8_unpick_41 : decode cX8_unpick 41 = .ok (.istore_n 3, 1) := by decide +kernel
theorem dX8_unpick_42 : decode cX8_unpick 42 = .ok (.iload_n 2, 1) := by decide +kernel
theorem dX8_unpick_43 : decode cX8_unpick 43 = .ok (.iconst 1, 1) := by decide +kernel
theorem dX8_unpick_44 : decode cX8_unpick 44 = .ok (.if_icmp .ne 5, 3) := by decide +kernel
theorem dX8_unpick_47 : decode cX8_unpick 47 = .ok (.iload_n 3, 1) := by decide +kernel
theorem dX8_unpick_48 : decode cX8_unpick 48 = .ok (.ireturn, 1) := by decide +kernel
theorem dX8_unpick_49 : decode cX8_unpick 49 = .ok (.iload_n 3, 1) := by decide +kernel
theorem dX8_unpick_50 : decode cX8_unpick 50 = .ok (.bipush (-6), 2) := by decide +kernel
theorem dX8_unpick_52 : decode cX8_unpick 52 = .ok (.if_icmp .ne 7, 3) := by decide +kernel
theorem dX8_unpick_55 : decode cX8_unpick 55 = .ok (.iconst 0, 1) := by decide +kernel
theorem dX8_unpick_56 : decode cX8_unpick 56 = .ok (.goto 4, 3) := by decide +kernel
theorem dX8_unpick_59 : decode cX8_unpick 59 = .ok (.iconst 1, 1) := by decide +kernel
theorem dX8_unpick_60 : decode cX8_unpick 60 = .ok (.ireturn, 1) := by decide +kernel
set_option maxRecDepth 20000 in
theorem ggX8_moths_X8_isWithin : GoodIn wsX8_moths wsX8_isWithin := goodIn_r _ [6] rfl (by decide +kernel)
set_option maxRecDepth 20000 in
theorem gX8_moths_X8_isWithin : GoodIn wsX8_moths (va_wsS RX8 75 yX8_isWithin wsX8_isWithin) := goodIn_app (goodIn_r _ [3, 4, 5] rfl (by decide +kernel)) ggX8_moths_X8_isWithin
set_option maxRecDepth 20000 in
theorem ggX8_moths_X8_power : GoodIn wsX8_moths wsX8_power := goodIn_r _ [9] rfl (by decide +kernel)
set_option maxRecDepth 20000 in
theorem gX8_moths_X8_power : GoodIn wsX8_moths (va_wsS RX8 216 yX8_power wsX8_power) := goodIn_app (goodIn_r _ [7, 8, 5] rfl (by decide +kernel)) ggX8_moths_X8_power
set_option maxRecDepth 20000 in
theorem ggX8_moths_X8_partInLowestTerms : GoodIn wsX8_moths wsX8_partInLowestTerms := goodIn_r _ [12, 13, 14, 5, 15, 16, 17, 18, 19] rfl (by decide +kernel)
set_option maxRecDepth 20000 in
theorem gX8_moths_X8_partInLowestTerms : GoodIn wsX8_moths (va_wsS RX8 220 yX8_partInLowestTerms wsX8_partInLowestTerms) := goodIn_app (goodIn_r _ [10, 11, 5] rfl (by decide +kernel)) ggX8_moths_X8_partInLowestTerms
theorem dX8_moths_0 : decode cX8_moths 0 = .ok (.iload_n 1, 1) := by decide +kernel
theorem dX8_moths_1 : decode cX8_moths 1 = .ok (.iconst 0, 1) := by decide +kernel
theorem dX8_moths_2 : decode cX8_moths 2 = .ok (.bipush 16, 2) := by decide +kernel
theorem dX8_moths_4 : decode cX8_moths 4 = .ok (.invokestatic 75, 3) := by decide +kernel
theorem dX8_moths_7 : decode cX8_moths 7 = .ok (.ifCond .eq 51, 3) := by decide +kernel
theorem dX8_moths_10 : decode cX8_moths 10 = .ok (.iload_n 2, 1) := by decide +kernel
theorem dX8_moths_11 : decode cX8_moths 11 = .ok (.iconst 0, 1) := by decide +kernel
theorem dX8_moths_12 : decode cX8_moths 12 = .ok (.bipush 16, 2) := by decide +kernel
theorem dX8_moths_14 : decode cX8_moths 14 = .ok (.invokestatic 75, 3) := by decide +kernel
theorem dX8_moths_17 : decode cX8_moths 17 = .ok (.ifCond .eq 41, 3) := by decide +kernel
theorem dX8_moths_20 : decode cX8_moths 20 = .ok (.iload_n 1, 1) := by decide +kernel
theorem dX8_moths_21 : decode cX8_moths 21 = .ok (.iload_n 2, 1) := by decide +kernel
theorem dX8_moths_22 : decode cX8_moths 22 = .ok (.imul, 1) := by decide +kernel
theorem dX8_moths_23 : decode cX8_moths 23 = .ok (.bipush 16, 2) := by decide +kernel
theorem dX8_moths_25 : decode cX8_moths 25 = .ok (.if_icmp .gt 33, 3) := by decide +kernel
theorem dX8_moths_28 : decode cX8_moths 28 = .ok (.iload_n 3, 1) := by decide +kernel
theorem dX8_moths_29 : decode cX8_moths 29 = .ok (.iconst 0, 1) := by decide +kernel
theorem dX8_moths_30 : decode cX8_moths 30 = .ok (.bipush 10, 2) := by decide +kernel
theorem dX8_moths_32 : decode cX8_moths 32 = .ok (.invokestatic 75, 3) := by decide +kernel
theorem dX8_moths_35 : decode cX8_moths 35 = .ok (.ifCond .eq 23, 3) := by decide +kernel
theorem dX8_moths_38 : decode cX8_moths 38 = .ok (.iload 4, 2) := by decide +kernel
theorem dX8_moths_40 : decode cX8_moths 40 = .ok (.iconst 0, 1) := by decide +kernel
theorem dX8_moths_41 : decode cX8_moths 41 = .ok (.iconst 1, 1) := by decide +kernel
theorem dX8_moths_42 : decode cX8_moths 42 = .ok (.invokestatic 75, 3) := by decide +kernel
theorem dX8_moths_45 : decode cX8_moths 45 = .ok (.ifCond .eq 13, 3) := by decide +kernel
theorem dX8_moths_48 : decode cX8_moths 48 = .ok (.iload 5, 2) := by decide +kernel
theorem dX8_moths_50 : decode cX8_moths 50 = .ok (.iconst 0, 1) := by decide +kernel
theorem dX8_moths_51 : decode cX8_moths 51 = .ok (.iconst 1, 1) := by decide +kernel
theorem dX8_moths_52 : decode cX8_moths 52 = .ok (.invokestatic 75, 3) := by decide +kernel
theorem dX8_moths_55 : decode cX8_moths 55 = .ok (.ifCond .ne 7, 3) := by decide +kernel
theorem dX8_moths_58 : decode cX8_moths 58 = .ok (.ldc2_w 212, 3) := by decide +kernel
theorem dX8_moths_61 : decode cX8_moths 61 = .ok (.lreturn, 1) := by decide +kernel
theorem dX8_moths_62 : decode cX8_moths 62 = .ok (.ldc2_w 214, 3) := by decide +kernel
theorem dX8_moths_65 : decode cX8_moths 65 = .ok (.iload_n 2, 1) := by decide +kernel
theorem dX8_moths_66 : decode cX8_moths 66 = .ok (.invokestatic 216, 3) := by decide +kernel
theorem dX8_moths_69 : decode cX8_moths 69 = .ok (.lstore 6, 2) := by decide +kernel
theorem dX8_moths_71 : decode cX8_moths 71 = .ok (.bipush 10, 2) := by decide +kernel
theorem dX8_moths_73 : decode cX8_moths 73 = .ok (.iload_n 3, 1) := by decide +kernel
theorem dX8_moths_74 : decode cX8_moths 74 = .ok (.isub, 1) := by decide +kernel
theorem dX8_moths_75 : decode cX8_moths 75 = .ok (.i2l, 1) := by decide +kernel
theorem dX8_moths_76 : decode cX8_moths 76 = .ok (.iload_n 2, 1) := by decide +kernel
theorem dX8_moths_77 : decode cX8_moths 77 = .ok (.invokestatic 216, 3) := by decide +kernel
theorem dX8_moths_80 : decode cX8_moths 80 = .ok (.lstore 8, 2) := by decide +kernel
theorem dX8_moths_82 : decode cX8_moths 82 = .ok (.iload 4, 2) := by decide +kernel
theorem dX8_moths_84 : decode cX8_moths 84 = .ok (.ifCond .ne 24, 3) := by decide +kernel
theorem dX8_moths_87 : decode cX8_moths 87 = .ok (.lload 6, 2) := by decide +kernel
theorem dX8_moths_89 : decode cX8_moths 89 = .ok (.lload 8, 2) := by decide +kernel
theorem dX8_moths_91 : decode cX8_moths 91 = .ok (.lsub, 1) := by decide +kernel
theorem dX8_moths_92 : decode cX8_moths 92 = .ok (.iload_n 1, 1) := by decide +kernel
theorem dX8_moths_93 : decode cX8_moths 93 = .ok (.invokestatic 216, 3) := by decide +kernel
theorem dX8_moths_96 : decode cX8_moths 96 = .ok (.lload 6, 2) := by decide +kernel
theorem dX8_moths_98 : decode cX8_moths 98 = .ok (.iload_n 1, 1) := by decide +kernel
theorem dX8_moths_99 : decode cX8_moths 99 = .ok (.invokestatic 216, 3) := by decide +kernel
theorem dX8_moths_102 : decode cX8_moths 102 = .ok (.iload 5, 2) := by decide +kernel
theorem dX8_moths_104 : decode cX8_moths 104 = .ok (.invokestatic 220, 3) := by decide +kernel
theorem dX8_moths_107 : decode cX8_moths 107 = .ok (.lreturn, 1) := by decide +kernel
theorem dX8_moths_108 : decode cX8_moths 108 = .ok (.iload_n 1, 1) := by decide +kernel
theorem dX8_moths_109 : decode cX8_moths 109 = .ok (.i2l, 1) := by decide +kernel
theorem dX8_moths_110 : decode cX8_moths 110 = .ok (.lload 8, 2) := by decide +kernel
theorem dX8_moths_112 : decode cX8_moths 112 = .ok (.lmul, 1) := by decide +kernel
theorem dX8_moths_113 : decode cX8_moths 113 = .ok (.lload 6, 2) := by decide +kernel
theorem dX8_moths_115 : decode cX8_moths 115 = .ok (.iload 5, 2) := by decide +kernel
theorem dX8_moths_117 : decode cX8_moths 117 = .ok (.invokestatic 220, 3) := by decide +kernel
theorem dX8_moths_120 : decode cX8_moths 120 = .ok (.lreturn, 1) := by decide +kernel
set_option maxRecDepth 20000 in
theorem ggX8_book_X8_isWithin : GoodIn wsX8_book wsX8_isWithin := goodIn_r _ [6] rfl (by decide +kernel)
set_option maxRecDepth 20000 in
theorem gX8_book_X8_isWithin : GoodIn wsX8_book (va_wsS RX8 75 yX8_isWithin wsX8_isWithin) := goodIn_app (goodIn_r _ [3, 4, 5] rfl (by decide +kernel)) ggX8_book_X8_isWithin
set_option maxRecDepth 20000 in
theorem ggX8_book_X8_drawYears : GoodIn wsX8_book wsX8_drawYears := goodIn_r _ [10, 1, 11, 12, 13, 14, 15, 16, 17, 18, 19, 20, 21, 22, 23, 24, 25, 26, 5, 27, 28, 29, 30, 31, 32, 33, 34, 35, 36, 37, 38, 39, 40, 41, 42, 43, 44, 45, 46, 47, 48, 49, 50, 51, 52, 53, 54, 55, 56, 57, 58, 59, 60, 61, 62, 63, 64, 65, 66, 67, 68, 69, 70, 71, 72, 73, 74, 75, 76, 77, 78, 79, 80, 81, 91, 92, 93, 94, 95, 96, 97, 98, 99, 100, 101, 102, 103, 104, 105, 106] rfl (by decide +kernel)
set_option maxRecDepth 20000 in
theorem gX8_book_X8_drawYears : GoodIn wsX8_book (wsV RX8 224 RX8 yX8_drawYears wsX8_drawYears) := goodIn_app (goodIn_r _ [7, 8, 9, 5] rfl (by decide +kernel)) ggX8_book_X8_drawYears
set_option maxRecDepth 20000 in
theorem ggX8_book_X1_howMany : GoodIn wsX8_book wsX1_howMany := goodIn_r _ [47, 18, 48, 49, 50, 51, 52, 53, 54, 101, 102, 103, 104, 105, 106] rfl (by decide +kernel)
set_option maxRecDepth 20000 in
theorem gX8_book_X1_howMany : GoodIn wsX8_book (wsV RX8 83 RX1 yX1_howMany wsX1_howMany) := goodIn_app (goodIn_r _ [82, 45, 46, 16] rfl (by decide +kernel)) ggX8_book_X1_howMany
set_option maxRecDepth 20000 in
theorem ggX8_book_X1_bordersInPlaces : GoodIn wsX8_book wsX1_bordersInPlaces := goodIn_r _ [86, 22, 87, 88, 89, 16, 90, 23, 18, 42, 5, 43, 48, 49, 50, 51, 52, 53, 54, 101, 102, 103, 104, 105, 106] rfl (by decide +kernel)
set_option maxRecDepth 20000 in
theorem gX8_book_X1_bordersInPlaces : GoodIn wsX8_book (wsV RX8 158 RX1 yX1_bordersInPlaces wsX1_bordersInPlaces) := goodIn_app (goodIn_r _ [83, 84, 85, 16] rfl (by decide +kernel)) ggX8_book_X1_bordersInPlaces
theorem dX8_book_0 : decode cX8_book 0 = .ok (.iload_n 1, 1) := by decide +kernel
theorem dX8_book_1 : decode cX8_book 1 = .ok (.iconst 0, 1) := by decide +kernel
theorem dX8_book_2 : decode cX8_book 2 = .ok (.sipush 9999, 3) := by decide +kernel
theorem dX8_book_5 : decode cX8_book 5 = .ok (.invokestatic 75, 3) := by decide +kernel
theorem dX8_book_8 : decode cX8_book 8 = .ok (.ifCond .eq 22, 3) := by decide +kernel
theorem dX8_book_11 : decode cX8_book 11 = .ok (.iload_n 2, 1) := by decide +kernel
theorem dX8_book_12 : decode cX8_book 12 = .ok (.iconst 1, 1) := by decide +kernel
theorem dX8_book_13 : decode cX8_book 13 = .ok (.bipush 99, 2) := by decide +kernel
theorem dX8_book_15 : decode cX8_book 15 = .ok (.invokestatic 75, 3) := by decide +kernel
theorem dX8_book_18 : decode cX8_book 18 = .ok (.ifCond .eq 12, 3) := by decide +kernel
theorem dX8_book_21 : decode cX8_book 21 = .ok (.iload_n 3, 1) := by decide +kernel
theorem dX8_book_22 : decode cX8_book 22 = .ok (.iconst 0, 1) := by decide +kernel
theorem dX8_book_23 : decode cX8_book 23 = .ok (.iconst 2, 1) := by decide +kernel
theorem dX8_book_24 : decode cX8_book 24 = .ok (.invokestatic 75, 3) := by decide +kernel
theorem dX8_book_27 : decode cX8_book 27 = .ok (.ifCond .ne 6, 3) := by decide +kernel
theorem dX8_book_30 : decode cX8_book 30 = .ok (.bipush (-2), 2) := by decide +kernel
theorem dX8_book_32 : decode cX8_book 32 = .ok (.ireturn, 1) := by decide +kernel
theorem dX8_book_33 : decode cX8_book 33 = .ok (.aload_n 0, 1) := by decide +kernel
theorem dX8_book_34 : decode cX8_book 34 = .ok (.iload_n 1, 1) := by decide +kernel
theorem dX8_book_35 : decode cX8_book 35 = .ok (.iload_n 2, 1) := by decide +kernel
theorem dX8_book_36 : decode cX8_book 36 = .ok (.invokevirtual 224, 3) := by decide +kernel
theorem dX8_book_39 : decode cX8_book 39 = .ok (.iload_n 3, 1) := by decide +kernel
theorem dX8_book_40 : decode cX8_book 40 = .ok (.ifCond .ne 11, 3) := by decide +kernel
theorem dX8_book_43 : decode cX8_book 43 = .ok (.aload_n 0, 1) := by decide +kernel
theorem dX8_book_44 : decode cX8_book 44 = .ok (.getfield 16, 3) := by decide +kernel
theorem dX8_book_47 : decode cX8_book 47 = .ok (.invokevirtual 83, 3) := by decide +kernel
theorem dX8_book_50 : decode cX8_book 50 = .ok (.ireturn, 1) := by decide +kernel
theorem dX8_book_51 : decode cX8_book 51 = .ok (.iload_n 3, 1) := by decide +kernel
theorem dX8_book_52 : decode cX8_book 52 = .ok (.iconst 1, 1) := by decide +kernel
theorem dX8_book_53 : decode cX8_book 53 = .ok (.if_icmp .ne 13, 3) := by decide +kernel
theorem dX8_book_56 : decode cX8_book 56 = .ok (.aload_n 0, 1) := by decide +kernel
theorem dX8_book_57 : decode cX8_book 57 = .ok (.getfield 16, 3) := by decide +kernel
theorem dX8_book_60 : decode cX8_book 60 = .ok (.getfield 94, 3) := by decide +kernel
theorem dX8_book_63 : decode cX8_book 63 = .ok (.goto 10, 3) := by decide +kernel
theorem dX8_book_66 : decode cX8_book 66 = .ok (.aload_n 0, 1) := by decide +kernel
theorem dX8_book_67 : decode cX8_book 67 = .ok (.getfield 16, 3) := by decide +kernel
theorem dX8_book_70 : decode cX8_book 70 = .ok (.invokevirtual 158, 3) := by decide +kernel
theorem dX8_book_73 : decode cX8_book 73 = .ok (.ireturn, 1) := by decide +kernel
set_option maxRecDepth 20000 in
theorem ggX8_image_X8_isWithin : GoodIn wsX8_image wsX8_isWithin := goodIn_r _ [6] rfl (by decide +kernel)
set_option maxRecDepth 20000 in
theorem gX8_image_X8_isWithin : GoodIn wsX8_image (va_wsS RX8 75 yX8_isWithin wsX8_isWithin) := goodIn_app (goodIn_r _ [3, 4, 5] rfl (by decide +kernel)) ggX8_image_X8_isWithin
set_option maxRecDepth 20000 in
theorem ggX8_image_X8_imageOf : GoodIn wsX8_image wsX8_imageOf := goodIn_r _ [10, 11, 12, 40, 41, 42, 43, 44, 45, 46, 47, 48, 49] rfl (by decide +kernel)
set_option maxRecDepth 20000 in
theorem gX8_image_X8_imageOf : GoodIn wsX8_image (wsV RX8 227 RX8 yX8_imageOf wsX8_imageOf) := goodIn_app (goodIn_r _ [7, 8, 9, 5] rfl (by decide +kernel)) ggX8_image_X8_imageOf
set_option maxRecDepth 20000 in
theorem ggX8_image_X2_keep : GoodIn wsX8_image wsX2_keep := goodIn_r _ [17, 18, 19, 20, 21, 22, 23, 24, 25, 26, 27, 28, 29, 30, 31, 32, 33, 34, 35, 36, 37, 38, 39, 50, 51, 52, 53, 54, 55, 56, 57, 58, 59, 60, 61] rfl (by decide +kernel)
set_option maxRecDepth 20000 in
theorem gX8_image_X2_keep : GoodIn wsX8_image (wsV RX8 231 RX2 yX2_keep wsX2_keep) := goodIn_app (goodIn_r _ [13, 14, 15, 16] rfl (by decide +kernel)) ggX8_image_X2_keep
theorem dX8_image_0 : decode cX8_image 0 = .ok (.iload_n 1, 1) := by decide +kernel
theorem dX8_image_1 : decode cX8_image 1 = .ok (.iconst 0, 1) := by decide +kernel
theorem dX8_image_2 : decode cX8_image 2 = .ok (.iconst 1, 1) := by decide +kernel
theorem dX8_image_3 : decode cX8_image 3 = .ok (.invokestatic 75, 3) := by decide +kernel
theorem dX8_image_6 : decode cX8_image 6 = .ok (.ifCond .ne 6, 3) := by decide +kernel
theorem dX8_image_9 : decode cX8_image 9 = .ok (.bipush (-2), 2) := by decide +kernel
theorem dX8_image_11 : decode cX8_image 11 = .ok (.ireturn, 1) := by decide +kernel
theorem dX8_image_12 : decode cX8_image 12 = .ok (.aload_n 0, 1) := by decide +kernel
theorem dX8_image_13 : decode cX8_image 13 = .ok (.iload_n 1, 1) := by decide +kernel
theorem dX8_image_14 : decode cX8_image 14 = .ok (.invokevirtual 227, 3) := by decide +kernel
theorem dX8_image_17 : decode cX8_image 17 = .ok (.aload_n 0, 1) := by decide +kernel
theorem dX8_image_18 : decode cX8_image 18 = .ok (.getfield 10, 3) := by decide +kernel
theorem dX8_image_21 : decode cX8_image 21 = .ok (.aload_n 0, 1) := by decide +kernel
theorem dX8_image_22 : decode cX8_image 22 = .ok (.getfield 50, 3) := by decide +kernel
theorem dX8_image_25 : decode cX8_image 25 = .ok (.invokevirtual 231, 3) := by decide +kernel
theorem dX8_image_28 : decode cX8_image 28 = .ok (.iconst 1, 1) := by decide +kernel
theorem dX8_image_29 : decode cX8_image 29 = .ok (.ireturn, 1) := by decide +kernel
set_option maxRecDepth 20000 in
theorem ggX8_restore_X8_isWithin : GoodIn wsX8_restore wsX8_isWithin := goodIn_r _ [6] rfl (by decide +kernel)
set_option maxRecDepth 20000 in
theorem gX8_restore_X8_isWithin : GoodIn wsX8_restore (va_wsS RX8 75 yX8_isWithin wsX8_isWithin) := goodIn_app (goodIn_r _ [3, 4, 5] rfl (by decide +kernel)) ggX8_restore_X8_isWithin
set_option maxRecDepth 20000 in
theorem ggX8_restore_X8_imageOf : GoodIn wsX8_restore wsX8_imageOf := goodIn_r _ [10, 11, 12, 40, 41, 42, 43, 44, 45, 46, 47, 48, 49] rfl (by decide +kernel)
set_option maxRecDepth 20000 in
theorem gX8_restore_X8_imageOf : GoodIn wsX8_restore (wsV RX8 227 RX8 yX8_imageOf wsX8_imageOf) := goodIn_app (goodIn_r _ [7, 8, 9, 5] rfl (by decide +kernel)) ggX8_restore_X8_imageOf
set_option maxRecDepth 20000 in
theorem ggX8_restore_X2_bringBack : GoodIn wsX8_restore wsX2_bringBack := goodIn_r _ [17, 18, 19, 20, 21, 22, 23, 24, 25, 26, 27, 28, 29, 30, 31, 32, 33, 34, 35, 36, 37, 38, 39, 50, 51, 52, 53, 54, 55, 56, 57, 58, 59, 60, 61] rfl (by decide +kernel)
set_option maxRecDepth 20000 in
theorem gX8_restore_X2_bringBack : GoodIn wsX8_restore (wsV RX8 235 RX2 yX2_bringBack wsX2_bringBack) := goodIn_app (goodIn_r _ [13, 14, 15, 16] rfl (by decide +kernel)) ggX8_restore_X2_bringBack
theorem dX8_restore_0 : decode cX8_restore 0 = .ok (.iload_n 1, 1) := by decide +kernel
theorem dX8_restore_1 : decode cX8_restore 1 = .ok (.iconst 0, 1) := by decide +kernel
theorem dX8_restore_2 : decode cX8_restore 2 = .ok (.iconst 1, 1) := by decide +kernel
theorem dX8_restore_3 : decode cX8_restore 3 = .ok (.invokestatic 75, 3) := by decide +kernel
theorem dX8_restore_6 : decode cX8_restore 6 = .ok (.ifCond .ne 6, 3) := by decide +kernel
theorem dX8_restore_9 : decode cX8_restore 9 = .ok (.bipush (-2), 2) := by decide +kernel
theorem dX8_restore_11 : decode cX8_restore 11 = .ok (.ireturn, 1) := by decide +kernel
theorem dX8_restore_12 : decode cX8_restore 12 = .ok (.aload_n 0, 1) := by decide +kernel
theorem dX8_restore_13 : decode cX8_restore 13 = .ok (.iload_n 1, 1) := by decide +kernel
theorem dX8_restore_14 : decode cX8_restore 14 = .ok (.invokevirtual 227, 3) := by decide +kernel
theorem dX8_restore_17 : decode cX8_restore 17 = .ok (.aload_n 0, 1) := by decide +kernel
theorem dX8_restore_18 : decode cX8_restore 18 = .ok (.getfield 10, 3) := by decide +kernel
theorem dX8_restore_21 : decode cX8_restore 21 = .ok (.aload_n 0, 1) := by decide +kernel
theorem dX8_restore_22 : decode cX8_restore 22 = .ok (.getfield 50, 3) := by decide +kernel
theorem dX8_restore_25 : decode cX8_restore 25 = .ok (.invokevirtual 235, 3) := by decide +kernel
theorem dX8_restore_28 : decode cX8_restore 28 = .ok (.ifCond .eq 7, 3) := by decide +kernel
theorem dX8_restore_31 : decode cX8_restore 31 = .ok (.iconst 1, 1) := by decide +kernel
theorem dX8_restore_32 : decode cX8_restore 32 = .ok (.goto 5, 3) := by decide +kernel
theorem dX8_restore_35 : decode cX8_restore 35 = .ok (.bipush (-3), 2) := by decide +kernel
theorem dX8_restore_37 : decode cX8_restore 37 = .ok (.ireturn, 1) := by decide +kernel
set_option maxRecDepth 20000 in
theorem ggX8_told_X8_toldOfHassock : GoodIn wsX8_told wsX8_toldOfHassock := goodIn_r _ [13, 3, 14, 15, 16, 17, 18, 12, 19, 20, 21, 22, 23, 24, 25, 26, 27, 28, 29, 30, 31, 32, 33, 34, 35, 36, 37, 38, 39, 42, 43, 44, 45, 46, 47] rfl (by decide +kernel)
set_option maxRecDepth 20000 in
theorem gX8_told_X8_toldOfHassock : GoodIn wsX8_told (wsV RX8 239 RX8 yX8_toldOfHassock wsX8_toldOfHassock) := goodIn_app (goodIn_r _ [9, 10, 11, 12] rfl (by decide +kernel)) ggX8_told_X8_toldOfHassock
theorem dX8_told_0 : decode cX8_told 0 = .ok (.iload_n 1, 1) := by decide +kernel
theorem dX8_told_1 : decode cX8_told 1 = .ok (.tableswitch 75 0 4 #[35, 43, 51, 59, 67], 35) := by decide +kernel
theorem dX8_told_36 : decode cX8_told 36 = .ok (.aload_n 0, 1) := by decide +kernel
theorem dX8_told_37 : decode cX8_told 37 = .ok (.getfield 22, 3) := by decide +kernel
theorem dX8_told_40 : decode cX8_told 40 = .ok (.getfield 109, 3) := by decide +kernel
theorem dX8_told_43 : decode cX8_told 43 = .ok (.ireturn, 1) := by decide +kernel
theorem dX8_told_44 : decode cX8_told 44 = .ok (.aload_n 0, 1) := by decide +kernel
theorem dX8_told_45 : decode cX8_told 45 = .ok (.getfield 10, 3) := by decide +kernel
theorem dX8_told_48 : decode cX8_told 48 = .ok (.getfield 136, 3) := by decide +kernel
theorem dX8_told_51 : decode cX8_told 51 = .ok (.ireturn, 1) := by decide +kernel
theorem dX8_told_52 : decode cX8_told 52 = .ok (.aload_n 0, 1) := by decide +kernel
theorem dX8_told_53 : decode cX8_told 53 = .ok (.getfield 10, 3) := by decide +kernel
theorem dX8_told_56 : decode cX8_told 56 = .ok (.getfield 94, 3) := by decide +kernel
theorem dX8_told_59 : decode cX8_told 59 = .ok (.ireturn, 1) := by decide +kernel
theorem dX8_told_60 : decode cX8_told 60 = .ok (.aload_n 0, 1) := by decide +kernel
theorem dX8_told_61 : decode cX8_told 61 = .ok (.getfield 10, 3) := by decide +kernel
theorem dX8_told_64 : decode cX8_told 64 = .ok (.getfield 142, 3) := by decide +kernel
theorem dX8_told_67 : decode cX8_told 67 = .ok (.ireturn, 1) := by decide +kernel
theorem dX8_told_68 : decode cX8_told 68 = .ok (.aload_n 0, 1) := by decide +kernel
theorem dX8_told_69 : decode cX8_told 69 = .ok (.getfield 50, 3) := by decide +kernel
theorem dX8_told_72 : decode cX8_told 72 = .ok (.getfield 191, 3) := by decide +kernel
theorem dX8_told_75 : decode cX8_told 75 = .ok (.ireturn, 1) := by decide +kernel
theorem dX8_told_76 : decode cX8_told 76 = .ok (.aload_n 0, 1) := by decide +kernel
theorem dX8_told_77 : decode cX8_told 77 = .ok (.iload_n 1, 1) := by decide +kernel
theorem dX8_told_78 : decode cX8_told 78 = .ok (.invokevirtual 239, 3) := by decide +kernel
theorem dX8_told_81 : decode cX8_told 81 = .ok (.ireturn, 1) := by decide +kernel
set_option maxRecDepth 20000 in
theorem ggX8_toldOfHassock_X8_isWithin : GoodIn wsX8_toldOfHassock wsX8_isWithin := goodIn_r _ [8] rfl (by decide +kernel)
set_option maxRecDepth 20000 in
theorem gX8_toldOfHassock_X8_isWithin : GoodIn wsX8_toldOfHassock (va_wsS RX8 75 yX8_isWithin wsX8_isWithin) := goodIn_app (goodIn_r _ [5, 6, 7] rfl (by decide +kernel)) ggX8_toldOfHassock_X8_isWithin
set_option maxRecDepth 20000 in
theorem ggX8_toldOfHassock_X1_isThere : GoodIn wsX8_toldOfHassock wsX1_isThere := goodIn_r _ [13, 14, 15, 7, 16, 17, 18, 29, 30, 31, 32, 33, 34] rfl (by decide +kernel)
set_option maxRecDepth 20000 in
theorem gX8_toldOfHassock_X1_isThere : GoodIn wsX8_toldOfHassock (wsV RX8 87 RX1 yX1_isThere wsX1_isThere) := goodIn_app (goodIn_r _ [9, 10, 11, 12] rfl (by decide +kernel)) ggX8_toldOfHassock_X1_isThere
theorem dX8_toldOfHassock_0 : decode cX8_toldOfHassock 0 = .ok (.iload_n 1, 1) := by decide +kernel
theorem dX8_toldOfHassock_1 : decode cX8_toldOfHassock 1 = .ok (.bipush 10, 2) := by decide +kernel
theorem dX8_toldOfHassock_3 : decode cX8_toldOfHassock 3 = .ok (.bipush 39, 2) := by decide +kernel
theorem dX8_toldOfHassock_5 : decode cX8_toldOfHassock 5 = .ok (.invokestatic 75, 3) := by decide +kernel
theorem dX8_toldOfHassock_8 : decode cX8_toldOfHassock 8 = .ok (.ifCond .ne 6, 3) := by decide +kernel
theorem dX8_toldOfHassock_11 : decode cX8_toldOfHassock 11 = .ok (.bipush (-2), 2) := by decide +kernel
theorem dX8_toldOfHassock_13 : decode cX8_toldOfHassock 13 = .ok (.ireturn, 1) := by decide +kernel
theorem dX8_toldOfHassock_14 : decode cX8_toldOfHassock 14 = .ok (.iload_n 1, 1) := by decide +kernel
theorem dX8_toldOfHassock_15 : decode cX8_toldOfHassock 15 = .ok (.bipush 10, 2) := by decide +kernel
theorem dX8_toldOfHassock_17 : decode cX8_toldOfHassock 17 = .ok (.irem, 1) := by decide +kernel
theorem dX8_toldOfHassock_18 : decode cX8_toldOfHassock 18 = .ok (.istore_n 2, 1) := by decide +kernel
theorem dX8_toldOfHassock_19 : decode cX8_toldOfHassock 19 = .ok (.iload_n 1, 1) := by decide +kernel
theorem dX8_toldOfHassock_20 : decode cX8_toldOfHassock 20 = .ok (.bipush 20, 2) := by decide +kernel
theorem dX8_toldOfHassock_22 : decode cX8_toldOfHassock 22 = .ok (.if_icmp .ge 13, 3) := by decide +kernel
theorem dX8_toldOfHassock_25 : decode cX8_toldOfHassock 25 = .ok (.aload_n 0, 1) := by decide +kernel
theorem dX8_toldOfHassock_26 : decode cX8_toldOfHassock 26 = .ok (.getfield 10, 3) := by decide +kernel
theorem dX8_toldOfHassock_29 : decode cX8_toldOfHassock 29 = .ok (.getfield 102, 3) := by decide +kernel
theorem dX8_toldOfHassock_32 : decode cX8_toldOfHassock 32 = .ok (.iload_n 2, 1) := by decide +kernel
theorem dX8_toldOfHassock_33 : decode cX8_toldOfHassock 33 = .ok (.iaload, 1) := by decide +kernel
theorem dX8_toldOfHassock_34 : decode cX8_toldOfHassock 34 = .ok (.ireturn, 1) := by decide +kernel
theorem dX8_toldOfHassock_35 : decode cX8_toldOfHassock 35 = .ok (.aload_n 0, 1) := by decide +kernel
theorem dX8_toldOfHassock_36 : decode cX8_toldOfHassock 36 = .ok (.getfield 10, 3) := by decide +kernel
theorem dX8_toldOfHassock_39 : decode cX8_toldOfHassock 39 = .ok (.iload_n 2, 1) := by decide +kernel
theorem dX8_toldOfHassock_40 : decode cX8_toldOfHassock 40 = .ok (.invokevirtual 87, 3) := by decide +kernel
theorem dX8_toldOfHassock_43 : decode cX8_toldOfHassock 43 = .ok (.ifCond .ne 6, 3) := by decide +kernel
theorem dX8_toldOfHassock_46 : decode cX8_toldOfHassock 46 = .ok (.bipush (-2), 2) := by decide +kernel
theorem dX8_toldOfHassock_48 : decode cX8_toldOfHassock 48 = .ok (.ireturn, 1) := by decide +kernel
theorem dX8_toldOfHassock_49 : decode cX8_toldOfHassock 49 = .ok (.iload_n 1, 1) := by decide +kernel
theorem dX8_toldOfHassock_50 : decode cX8_toldOfHassock 50 = .ok (.bipush 30, 2) := by decide +kernel
theorem dX8_toldOfHassock_52 : decode cX8_toldOfHassock 52 = .ok (.if_icmp .ge 15, 3) := by decide +kernel
theorem dX8_toldOfHassock_55 : decode cX8_toldOfHassock 55 = .ok (.aload_n 0, 1) := by decide +kernel
theorem dX8_toldOfHassock_56 : decode cX8_toldOfHassock 56 = .ok (.getfield 10, 3) := by decide +kernel
theorem dX8_toldOfHassock_59 : decode cX8_toldOfHassock 59 = .ok (.getfield 130, 3) := by decide +kernel
theorem dX8_toldOfHassock_62 : decode cX8_toldOfHassock 62 = .ok (.iload_n 2, 1) := by decide +kernel
theorem dX8_toldOfHassock_63 : decode cX8_toldOfHassock 63 = .ok (.iaload, 1) := by decide +kernel
theorem dX8_toldOfHassock_64 : decode cX8_toldOfHassock 64 = .ok (.goto 12, 3) := by decide +kernel
theorem dX8_toldOfHassock_67 : decode cX8_toldOfHassock 67 = .ok (.aload_n 0, 1) := by decide +kernel
theorem dX8_toldOfHassock_68 : decode cX8_toldOfHassock 68 = .ok (.getfield 10, 3) := by decide +kernel
theorem dX8_toldOfHassock_71 : decode cX8_toldOfHassock 71 = .ok (.getfield 133, 3) := by decide +kernel
theorem dX8_toldOfHassock_74 : decode cX8_toldOfHassock 74 = .ok (.iload_n 2, 1) := by decide +kernel
theorem dX8_toldOfHassock_75 : decode cX8_toldOfHassock 75 = .ok (.iaload, 1) := by decide +kernel
theorem dX8_toldOfHassock_76 : decode cX8_toldOfHassock 76 = .ok (.ireturn, 1) := by decide +kernel
set_option maxRecDepth 20000 in
theorem ggX8_tryText_X3_firstFault : GoodIn wsX8_tryText wsX3_firstFault := goodIn_r _ [10, 11, 12, 13, 14, 9, 15, 16, 17, 18, 19, 20, 21, 22, 23, 24, 25, 26, 27, 28, 29, 30, 31, 32, 33, 34, 143, 144] rfl (by decide +kernel)
set_option maxRecDepth 20000 in
theorem gX8_tryText_X3_firstFault : GoodIn wsX8_tryText (wsV RX8 115 RX3 yX3_firstFault wsX3_firstFault) := goodIn_app (goodIn_r _ [6, 7, 8, 9] rfl (by decide +kernel)) ggX8_tryText_X3_firstFault
set_option maxRecDepth 20000 in
theorem ggX8_tryText_X1_copyFrom : GoodIn wsX8_tryText wsX1_copyFrom := goodIn_r _ [39, 40, 41, 42, 43, 44, 45, 145, 146, 147, 148, 149, 150] rfl (by decide +kernel)
set_option maxRecDepth 20000 in
theorem gX8_tryText_X1_copyFrom : GoodIn wsX8_tryText (wsV RX8 151 RX1 yX1_copyFrom wsX1_copyFrom) := goodIn_app (goodIn_r _ [35, 36, 37, 38] rfl (by decide +kernel)) ggX8_tryText_X1_copyFrom
set_option maxRecDepth 20000 in
theorem ggX8_tryText_X7_run : GoodIn wsX8_tryText wsX7_run := goodIn_r _ [50, 51, 52, 53, 54, 55, 56, 57, 58, 32, 33, 9, 34, 16, 17, 18, 19, 11, 20, 59, 60, 61, 62, 63, 64, 65, 66, 31, 67, 68, 69, 38, 70, 71, 72, 73, 74, 42, 41, 43, 75, 76, 77, 78, 40, 79, 25, 80, 81, 82, 83, 84, 85, 86, 87, 88, 89, 90, 91, 92, 93, 94, 95, 96, 97, 98, 99, 100, 101, 44, 102, 103, 104, 105, 106, 107, 108, 109, 110, 111, 112, 113, 45, 114, 115, 116, 117, 118, 119, 120, 121, 122, 123, 124, 49, 125, 126, 28, 29, 30, 137, 138, 139, 140, 141, 142, 143, 144, 145, 146, 147, 148, 149, 150] rfl (by decide +kernel)
set_option maxRecDepth 20000 in
theorem gX8_tryText_X7_run : GoodIn wsX8_tryText (wsV RX8 242 RX7 yX7_run wsX7_run) := goodIn_app (goodIn_r _ [46, 47, 48, 49] rfl (by decide +kernel)) ggX8_tryText_X7_run
theorem dX8_tryText_0 : decode cX8_tryText 0 = .ok (.aload_n 0, 1) := by decide +kernel
theorem dX8_tryText_1 : decode cX8_tryText 1 = .ok (.getfield 22, 3) := by decide +kernel
theorem dX8_tryText_4 : decode cX8_tryText 4 = .ok (.invokevirtual 115, 3) := by decide +kernel
theorem dX8_tryText_7 : decode cX8_tryText 7 = .ok (.bipush (-6), 2) := by decide +kernel
theorem dX8_tryText_9 : decode cX8_tryText 9 = .ok (.if_icmp .eq 6, 3) := by decide +kernel
theorem dX8_tryText_12 : decode cX8_tryText 12 = .ok (.bipush (-5), 2) := by decide +kernel
theorem dX8_tryText_14 : decode cX8_tryText 14 = .ok (.ireturn, 1) := by decide +kernel
theorem dX8_tryText_15 : decode cX8_tryText 15 = .ok (.aload_n 0, 1) := by decide +kernel
theorem dX8_tryText_16 : decode cX8_tryText 16 = .ok (.getfield 16, 3) := by decide +kernel
theorem dX8_tryText_19 : decode cX8_tryText 19 = .ok (.aload_n 0, 1) := by decide +kernel
theorem dX8_tryText_20 : decode cX8_tryText 20 = .ok (.getfield 10, 3) := by decide +kernel
theorem dX8_tryText_23 : decode cX8_tryText 23 = .ok (.invokevirtual 151, 3) := by decide +kernel
theorem dX8_tryText_26 : decode cX8_tryText 26 = .ok (.aload_n 0, 1) := by decide +kernel
theorem dX8_tryText_27 : decode cX8_tryText 27 = .ok (.getfield 29, 3) := by decide +kernel
theorem dX8_tryText_30 : decode cX8_tryText 30 = .ok (.aload_n 0, 1) := by decide +kernel
theorem dX8_tryText_31 : decode cX8_tryText 31 = .ok (.getfield 22, 3) := by decide +kernel
theorem dX8_tryText_34 : decode cX8_tryText 34 = .ok (.aload_n 0, 1) := by decide +kernel
theorem dX8_tryText_35 : decode cX8_tryText 35 = .ok (.getfield 16, 3) := by decide +kernel
theorem dX8_tryText_38 : decode cX8_tryText 38 = .ok (.invokevirtual 242, 3) := by decide +kernel
theorem dX8_tryText_41 : decode cX8_tryText 41 = .ok (.aload_n 0, 1) := by decide +kernel
theorem dX8_tryText_42 : decode cX8_tryText 42 = .ok (.getfield 29, 3) := by decide +kernel
theorem dX8_tryText_45 : decode cX8_tryText 45 = .ok (.getfield 121, 3) := by decide +kernel
theorem dX8_tryText_48 : decode cX8_tryText 48 = .ok (.bipush (-6), 2) := by decide +kernel
theorem dX8_tryText_50 : decode cX8_tryText 50 = .ok (.if_icmp .ne 7, 3) := by decide +kernel
theorem dX8_tryText_53 : decode cX8_tryText 53 = .ok (.iconst 0, 1) := by decide +kernel
theorem dX8_tryText_54 : decode cX8_tryText 54 = .ok (.goto 5, 3) := by decide +kernel
theorem dX8_tryText_57 : decode cX8_tryText 57 = .ok (.bipush (-3), 2) := by decide +kernel
theorem dX8_tryText_59 : decode cX8_tryText 59 = .ok (.ireturn, 1) := by decide +kernel
set_option maxRecDepth 20000 in
theorem ggX8_drawYears_X1_copyFrom : GoodIn wsX8_drawYears wsX1_copyFrom := goodIn_r _ [8, 9, 10, 11, 12, 13, 14, 84, 85, 86, 87, 88, 89] rfl (by decide +kernel)
set_option maxRecDepth 20000 in
theorem gX8_drawYears_X1_copyFrom : GoodIn wsX8_drawYears (wsV RX8 151 RX1 yX1_copyFrom wsX1_copyFrom) := goodIn_app (goodIn_r _ [4, 5, 6, 7] rfl (by decide +kernel)) ggX8_drawYears_X1_copyFrom
set_option maxRecDepth 20000 in
theorem ggX8_drawYears_X8_drawAct : GoodIn wsX8_drawYears wsX8_drawAct := goodIn_r _ [19, 1, 20, 21, 22, 7, 23, 24, 25, 26, 27, 11, 10, 12, 28, 29, 30, 31, 9, 32, 18, 33, 34, 35, 36, 37, 38, 39, 40, 41, 42, 43, 44, 45, 46, 47, 48, 49, 50, 51, 52, 53, 54, 13, 55, 56, 57, 58, 59, 60, 61, 62, 63, 64, 65, 66, 14, 67, 68, 69, 70, 71, 72, 73, 74, 75, 76, 77, 78, 79, 80, 81, 82, 83, 84, 85, 86, 87, 88, 89] rfl (by decide +kernel)
set_option maxRecDepth 20000 in
theorem gX8_drawYears_X8_drawAct : GoodIn wsX8_drawYears (wsV RX8 247 RX8 yX8_drawAct wsX8_drawAct) := goodIn_app (goodIn_r _ [15, 16, 17, 18] rfl (by decide +kernel)) ggX8_drawYears_X8_drawAct
theorem dX8_drawYears_0 : decode cX8_drawYears 0 = .ok (.aload_n 0, 1) := by decide +kernel
theorem dX8_drawYears_1 : decode cX8_drawYears 1 = .ok (.getfield 16, 3) := by decide +kernel
theorem dX8_drawYears_4 : decode cX8_drawYears 4 = .ok (.aload_n 0, 1) := by decide +kernel
theorem dX8_drawYears_5 : decode cX8_drawYears 5 = .ok (.getfield 10, 3) := by decide +kernel
theorem dX8_drawYears_8 : decode cX8_drawYears 8 = .ok (.invokevirtual 151, 3) := by decide +kernel
theorem dX8_drawYears_11 : decode cX8_drawYears 11 = .ok (.iload_n 1, 1) := by decide +kernel
theorem dX8_drawYears_12 : decode cX8_drawYears 12 = .ok (.istore_n 3, 1) := by decide +kernel
theorem dX8_drawYears_13 : decode cX8_drawYears 13 = .ok (.iconst 0, 1) := by decide +kernel
theorem dX8_drawYears_14 : decode cX8_drawYears 14 = .ok (.istore 4, 2) := by decide +kernel
theorem dX8_drawYears_16 : decode cX8_drawYears 16 = .ok (.iload 4, 2) := by decide +kernel
theorem dX8_drawYears_18 : decode cX8_drawYears 18 = .ok (.iload_n 2, 1) := by decide +kernel
theorem dX8_drawYears_19 : decode cX8_drawYears 19 = .ok (.if_icmp .ge 39, 3) := by decide +kernel
theorem dX8_drawYears_22 : decode cX8_drawYears 22 = .ok (.bipush 75, 2) := by decide +kernel
theorem dX8_drawYears_24 : decode cX8_drawYears 24 = .ok (.iload_n 3, 1) := by decide +kernel
theorem dX8_drawYears_25 : decode cX8_drawYears 25 = .ok (.imul, 1) := by decide +kernel
theorem dX8_drawYears_26 : decode cX8_drawYears 26 = .ok (.bipush 74, 2) := by decide +kernel
theorem dX8_drawYears_28 : decode cX8_drawYears 28 = .ok (.iadd, 1) := by decide +kernel
theorem dX8_drawYears_29 : decode cX8_drawYears 29 = .ok (.ldc 246, 2) := by decide +kernel
theorem dX8_drawYears_31 : decode cX8_drawYears 31 = .ok (.irem, 1) := by decide +kernel
theorem dX8_drawYears_32 : decode cX8_drawYears 32 = .ok (.istore_n 3, 1) := by decide +kernel
theorem dX8_drawYears_33 : decode cX8_drawYears 33 = .ok (.aload_n 0, 1) := by decide +kernel
theorem dX8_drawYears_34 : decode cX8_drawYears 34 = .ok (.iload_n 3, 1) := by decide +kernel
theorem dX8_drawYears_35 : decode cX8_drawYears 35 = .ok (.bipush 10, 2) := by decide +kernel
theorem dX8_drawYears_37 : decode cX8_drawYears 37 = .ok (.irem, 1) := by decide +kernel
theorem dX8_drawYears_38 : decode cX8_drawYears 38 = .ok (.iload_n 3, 1) := by decide +kernel
theorem dX8_drawYears_39 : decode cX8_drawYears 39 = .ok (.bipush 10, 2) := by decide +kernel
theorem dX8_drawYears_41 : decode cX8_drawYears 41 = .ok (.idiv, 1) := by decide +kernel
theorem dX8_drawYears_42 : decode cX8_drawYears 42 = .ok (.bipush 8, 2) := by decide +kernel
theorem dX8_drawYears_44 : decode cX8_drawYears 44 = .ok (.irem, 1) := by decide +kernel
theorem dX8_drawYears_45 : decode cX8_drawYears 45 = .ok (.iload_n 3, 1) := by decide +kernel
theorem dX8_drawYears_46 : decode cX8_drawYears 46 = .ok (.bipush 80, 2) := by decide +kernel
theorem dX8_drawYears_48 : decode cX8_drawYears 48 = .ok (.idiv, 1) := by decide +kernel
theorem dX8_drawYears_49 : decode cX8_drawYears 49 = .ok (.invokevirtual 247, 3) := by decide +kernel
theorem dX8_drawYears_52 : decode cX8_drawYears 52 = .ok (.iinc 4 1, 3) := by decide +kernel
theorem dX8_drawYears_55 : decode cX8_drawYears 55 = .ok (.goto (-39), 3) := by decide +kernel
theorem dX8_drawYears_58 : decode cX8_drawYears 58 = .ok (.return_, 1) := by decide +kernel
set_option maxRecDepth 20000 in
theorem ggX8_drawAct_X1_attempt : GoodIn wsX8_drawAct wsX1_attempt := goodIn_r _ [6, 7, 8, 9, 5, 10, 11, 12, 13, 14, 15, 16, 17, 18, 19, 20, 21, 22, 23, 24, 25, 26, 27, 28, 29, 30, 31, 32, 33, 34, 35, 36, 37, 38, 39, 40, 41, 42, 43, 44, 45, 46, 47, 48, 49, 50, 51, 52, 53, 54, 55, 56, 57, 58, 59, 60, 61, 62, 63, 74, 75, 76, 77, 78, 79] rfl (by decide +kernel)
set_option maxRecDepth 20000 in
theorem gX8_drawAct_X1_attempt : GoodIn wsX8_drawAct (wsV RX8 250 RX1 yX1_attempt wsX1_attempt) := goodIn_app (goodIn_r _ [2, 3, 4, 5] rfl (by decide +kernel)) ggX8_drawAct_X1_attempt
theorem dX8_drawAct_0 : decode cX8_drawAct 0 = .ok (.iload_n 2, 1) := by decide +kernel
theorem dX8_drawAct_1 : decode cX8_drawAct 1 = .ok (.tableswitch 134 0 6 #[43, 43, 62, 76, 76, 93, 117], 43) := by decide +kernel
theorem dX8_drawAct_44 : decode cX8_drawAct 44 = .ok (.aload_n 0, 1) := by decide +kernel
theorem dX8_drawAct_45 : decode cX8_drawAct 45 = .ok (.getfield 16, 3) := by decide +kernel
theorem dX8_drawAct_48 : decode cX8_drawAct 48 = .ok (.iconst 0, 1) := by decide +kernel
theorem dX8_drawAct_49 : decode cX8_drawAct 49 = .ok (.iload_n 1, 1) := by decide +kernel
theorem dX8_drawAct_50 : decode cX8_drawAct 50 = .ok (.iconst 1, 1) := by decide +kernel
theorem dX8_drawAct_51 : decode cX8_drawAct 51 = .ok (.iload_n 3, 1) := by decide +kernel
theorem dX8_drawAct_52 : decode cX8_drawAct 52 = .ok (.bipush 9, 2) := by decide +kernel
theorem dX8_drawAct_54 : decode cX8_drawAct 54 = .ok (.irem, 1) := by decide +kernel
theorem dX8_drawAct_55 : decode cX8_drawAct 55 = .ok (.iadd, 1) := by decide +kernel
theorem dX8_drawAct_56 : decode cX8_drawAct 56 = .ok (.invokevirtual 250, 3) := by decide +kernel
theorem dX8_drawAct_59 : decode cX8_drawAct 59 = .ok (.pop, 1) := by decide +kernel
theorem dX8_drawAct_60 : decode cX8_drawAct 60 = .ok (.goto 87, 3) := by decide +kernel
theorem dX8_drawAct_63 : decode cX8_drawAct 63 = .ok (.aload_n 0, 1) := by decide +kernel
theorem dX8_drawAct_64 : decode cX8_drawAct 64 = .ok (.getfield 16, 3) := by decide +kernel
theorem dX8_drawAct_67 : decode cX8_drawAct 67 = .ok (.iconst 1, 1) := by decide +kernel
theorem dX8_drawAct_68 : decode cX8_drawAct 68 = .ok (.iload_n 1, 1) := by decide +kernel
theorem dX8_drawAct_69 : decode cX8_drawAct 69 = .ok (.iconst 0, 1) := by decide +kernel
theorem dX8_drawAct_70 : decode cX8_drawAct 70 = .ok (.invokevirtual 250, 3) := by decide +kernel
theorem dX8_drawAct_73 : decode cX8_drawAct 73 = .ok (.pop, 1) := by decide +kernel
theorem dX8_drawAct_74 : decode cX8_drawAct 74 = .ok (.goto 73, 3) := by decide +kernel
theorem dX8_drawAct_77 : decode cX8_drawAct 77 = .ok (.aload_n 0, 1) := by decide +kernel
theorem dX8_drawAct_78 : decode cX8_drawAct 78 = .ok (.getfield 16, 3) := by decide +kernel
theorem dX8_drawAct_81 : decode cX8_drawAct 81 = .ok (.iconst 2, 1) := by decide +kernel
theorem dX8_drawAct_82 : decode cX8_drawAct 82 = .ok (.iload_n 1, 1) := by decide +kernel
theorem dX8_drawAct_83 : decode cX8_drawAct 83 = .ok (.iload_n 3, 1) := by decide +kernel
theorem dX8_drawAct_84 : decode cX8_drawAct 84 = .ok (.bipush 8, 2) := by decide +kernel
theorem dX8_drawAct_86 : decode cX8_drawAct 86 = .ok (.irem, 1) := by decide +kernel
theorem dX8_drawAct_87 : decode cX8_drawAct 87 = .ok (.invokevirtual 250, 3) := by decide +kernel
theorem dX8_drawAct_90 : decode cX8_drawAct 90 = .ok (.pop, 1) := by decide +kernel
theorem dX8_drawAct_91 : decode cX8_drawAct 91 = .ok (.goto 56, 3) := by decide +kernel
theorem dX8_drawAct_94 : decode cX8_drawAct 94 = .ok (.iload_n 3, 1) := by decide +kernel
theorem dX8_drawAct_95 : decode cX8_drawAct 95 = .ok (.bipush 8, 2) := by decide +kernel
theorem dX8_drawAct_97 : decode cX8_drawAct 97 = .ok (.irem, 1) := by decide +kernel
theorem dX8_drawAct_98 : decode cX8_drawAct 98 = .ok (.ifCond .ne 49, 3) := by decide +kernel
theorem dX8_drawAct_101 : decode cX8_drawAct 101 = .ok (.aload_n 0, 1) := by decide +kernel
theorem dX8_drawAct_102 : decode cX8_drawAct 102 = .ok (.getfield 16, 3) := by decide +kernel
theorem dX8_drawAct_105 : decode cX8_drawAct 105 = .ok (.iconst 3, 1) := by decide +kernel
theorem dX8_drawAct_106 : decode cX8_drawAct 106 = .ok (.iload_n 1, 1) := by decide +kernel
theorem dX8_drawAct_107 : decode cX8_drawAct 107 = .ok (.iload_n 3, 1) := by decide +kernel
theorem dX8_drawAct_108 : decode cX8_drawAct 108 = .ok (.bipush 10, 2) := by decide +kernel
theorem dX8_drawAct_110 : decode cX8_drawAct 110 = .ok (.irem, 1) := by decide +kernel
theorem dX8_drawAct_111 : decode cX8_drawAct 111 = .ok (.invokevirtual 250, 3) := by decide +kernel
theorem dX8_drawAct_114 : decode cX8_drawAct 114 = .ok (.pop, 1) := by decide +kernel
theorem dX8_drawAct_115 : decode cX8_drawAct 115 = .ok (.goto 32, 3) := by decide +kernel
theorem dX8_drawAct_118 : decode cX8_drawAct 118 = .ok (.aload_n 0, 1) := by decide +kernel
theorem dX8_drawAct_119 : decode cX8_drawAct 119 = .ok (.getfield 16, 3) := by decide +kernel
theorem dX8_drawAct_122 : decode cX8_drawAct 122 = .ok (.iconst 4, 1) := by decide +kernel
theorem dX8_drawAct_123 : decode cX8_drawAct 123 = .ok (.iload_n 1, 1) := by decide +kernel
theorem dX8_drawAct_124 : decode cX8_drawAct 124 = .ok (.iload_n 3, 1) := by decide +kernel
theorem dX8_drawAct_125 : decode cX8_drawAct 125 = .ok (.bipush 10, 2) := by decide +kernel
theorem dX8_drawAct_127 : decode cX8_drawAct 127 = .ok (.irem, 1) := by decide +kernel
theorem dX8_drawAct_128 : decode cX8_drawAct 128 = .ok (.invokevirtual 250, 3) := by decide +kernel
theorem dX8_drawAct_131 : decode cX8_drawAct 131 = .ok (.pop, 1) := by decide +kernel
theorem dX8_drawAct_132 : decode cX8_drawAct 132 = .ok (.goto 15, 3) := by decide +kernel
theorem dX8_drawAct_135 : decode cX8_drawAct 135 = .ok (.aload_n 0, 1) := by decide +kernel
theorem dX8_drawAct_136 : decode cX8_drawAct 136 = .ok (.getfield 16, 3) := by decide +kernel
theorem dX8_drawAct_139 : decode cX8_drawAct 139 = .ok (.bipush 6, 2) := by decide +kernel
theorem dX8_drawAct_141 : decode cX8_drawAct 141 = .ok (.iload_n 1, 1) := by decide +kernel
theorem dX8_drawAct_142 : decode cX8_drawAct 142 = .ok (.iconst 0, 1) := by decide +kernel
theorem dX8_drawAct_143 : decode cX8_drawAct 143 = .ok (.invokevirtual 250, 3) := by decide +kernel
theorem dX8_drawAct_146 : decode cX8_drawAct 146 = .ok (.pop, 1) := by decide +kernel
theorem dX8_drawAct_147 : decode cX8_drawAct 147 = .ok (.return_, 1) := by decide +kernel
theorem dX8_imageOf_0 : decode cX8_imageOf 0 = .ok (.iload_n 1, 1) := by decide +kernel
theorem dX8_imageOf_1 : decode cX8_imageOf 1 = .ok (.ifCond .ne 10, 3) := by decide +kernel
theorem dX8_imageOf_4 : decode cX8_imageOf 4 = .ok (.aload_n 0, 1) := by decide +kernel
theorem dX8_imageOf_5 : decode cX8_imageOf 5 = .ok (.getfield 64, 3) := by decide +kernel
theorem dX8_imageOf_8 : decode cX8_imageOf 8 = .ok (.goto 7, 3) := by decide +kernel
theorem dX8_imageOf_11 : decode cX8_imageOf 11 = .ok (.aload_n 0, 1) := by decide +kernel
theorem dX8_imageOf_12 : decode cX8_imageOf 12 = .ok (.getfield 68, 3) := by decide +kernel
theorem dX8_imageOf_15 : decode cX8_imageOf 15 = .ok (.areturn, 1) := by decide +kernel
theorem dX8_isWithin_0 : decode cX8_isWithin 0 = .ok (.iload_n 0, 1) := by decide +kernel
theorem dX8_isWithin_1 : decode cX8_isWithin 1 = .ok (.iload_n 1, 1) := by decide +kernel
theorem dX8_isWithin_2 : decode cX8_isWithin 2 = .ok (.if_icmp .lt 12, 3) := by decide +kernel
theorem dX8_isWithin_5 : decode cX8_isWithin 5 = .ok (.iload_n 0, 1) := by decide +kernel
theorem dX8_isWithin_6 : decode cX8_isWithin 6 = .ok (.iload_n 2, 1) := by decide +kernel
theorem dX8_isWithin_7 : decode cX8_isWithin 7 = .ok (.if_icmp .gt 7, 3) := by decide +kernel
theorem dX8_isWithin_10 : decode cX8_isWithin 10 = .ok (.iconst 1, 1) := by decide +kernel
theorem dX8_isWithin_11 : decode cX8_isWithin 11 = .ok (.goto 4, 3) := by decide +kernel
theorem dX8_isWithin_14 : decode cX8_isWithin 14 = .ok (.iconst 0, 1) := by decide +kernel
theorem dX8_isWithin_15 : decode cX8_isWithin 15 = .ok (.ireturn, 1) := by decide +kernel
theorem dX8_isHassock_0 : decode cX8_isHassock 0 = .ok (.iload_n 0, 1) := by decide +kernel
theorem dX8_isHassock_1 : decode cX8_isHassock 1 = .ok (.ifCond .lt 13, 3) := by decide +kernel
theorem dX8_isHassock_4 : decode cX8_isHassock 4 = .ok (.iload_n 0, 1) := by decide +kernel
theorem dX8_isHassock_5 : decode cX8_isHassock 5 = .ok (.bipush 10, 2) := by decide +kernel
theorem dX8_isHassock_7 : decode cX8_isHassock 7 = .ok (.if_icmp .ge 7, 3) := by decide +kernel
theorem dX8_isHassock_10 : decode cX8_isHassock 10 = .ok (.iconst 1, 1) := by decide +kernel
theorem dX8_isHassock_11 : decode cX8_isHassock 11 = .ok (.goto 4, 3) := by decide +kernel
theorem dX8_isHassock_14 : decode cX8_isHassock 14 = .ok (.iconst 0, 1) := by decide +kernel
theorem dX8_isHassock_15 : decode cX8_isHassock 15 = .ok (.ireturn, 1) := by decide +kernel
theorem dX8_isIn_0 : decode cX8_isIn 0 = .ok (.iload_n 0, 1) := by decide +kernel
theorem dX8_isIn_1 : decode cX8_isIn 1 = .ok (.iload_n 1, 1) := by decide +kernel
theorem dX8_isIn_2 : decode cX8_isIn 2 = .ok (.ishr, 1) := by decide +kernel
theorem dX8_isIn_3 : decode cX8_isIn 3 = .ok (.iconst 1, 1) := by decide +kernel
theorem dX8_isIn_4 : decode cX8_isIn 4 = .ok (.iand, 1) := by decide +kernel
theorem dX8_isIn_5 : decode cX8_isIn 5 = .ok (.iconst 1, 1) := by decide +kernel
theorem dX8_isIn_6 : decode cX8_isIn 6 = .ok (.if_icmp .ne 7, 3) := by decide +kernel
theorem dX8_isIn_9 : decode cX8_isIn 9 = .ok (.iconst 1, 1) := by decide +kernel
theorem dX8_isIn_10 : decode cX8_isIn 10 = .ok (.goto 4, 3) := by decide +kernel
theorem dX8_isIn_13 : decode cX8_isIn 13 = .ok (.iconst 0, 1) := by decide +kernel
theorem dX8_isIn_14 : decode cX8_isIn 14 = .ok (.ireturn, 1) := by decide +kernel
theorem dX8_power_0 : decode cX8_power 0 = .ok (.lconst 1, 1) := by decide +kernel
theorem dX8_power_1 : decode cX8_power 1 = .ok (.lstore_n 3, 1) := by decide +kernel
theorem dX8_power_2 : decode cX8_power 2 = .ok (.iconst 0, 1) := by decide +kernel
theorem dX8_power_3 : decode cX8_power 3 = .ok (.istore 5, 2) := by decide +kernel
theorem dX8_power_5 : decode cX8_power 5 = .ok (.iload 5, 2) := by decide +kernel
theorem dX8_power_7 : decode cX8_power 7 = .ok (.iload_n 2, 1) := by decide +kernel
theorem dX8_power_8 : decode cX8_power 8 = .ok (.if_icmp .ge 13, 3) := by decide +kernel
theorem dX8_power_11 : decode cX8_power 11 = .ok (.lload_n 3, 1) := by decide +kernel
theorem dX8_power_12 : decode cX8_power 12 = .ok (.lload_n 0, 1) := by decide +kernel
theorem dX8_power_13 : decode cX8_power 13 = .ok (.lmul, 1) := by decide +kernel
theorem dX8_power_14 : decode cX8_power 14 = .ok (.lstore_n 3, 1) := by decide +kernel
theorem dX8_power_15 : decode cX8_power 15 = .ok (.iinc 5 1, 3) := by decide +kernel
theorem dX8_power_18 : decode cX8_power 18 = .ok (.goto (-13), 3) := by decide +kernel
theorem dX8_power_21 : decode cX8_power 21 = .ok (.lload_n 3, 1) := by decide +kernel
theorem dX8_power_22 : decode cX8_power 22 = .ok (.lreturn, 1) := by decide +kernel
set_option maxRecDepth 20000 in
theorem ggX8_partInLowestTerms_X8_commonDivisor : GoodIn wsX8_partInLowestTerms wsX8_commonDivisor := goodIn_r _ [4, 5, 6, 7, 8] rfl (by decide +kernel)
set_option maxRecDepth 20000 in
theorem gX8_partInLowestTerms_X8_commonDivisor : GoodIn wsX8_partInLowestTerms (va_wsS RX8 254 yX8_commonDivisor wsX8_commonDivisor) := goodIn_app (goodIn_r _ [1, 2, 3] rfl (by decide +kernel)) ggX8_partInLowestTerms_X8_commonDivisor
theorem dX8_partInLowestTerms_0 : decode cX8_partInLowestTerms 0 = .ok (.lload_n 0, 1) := by decide +kernel
theorem dX8_partInLowestTerms_1 : decode cX8_partInLowestTerms 1 = .ok (.lload_n 2, 1) := by decide +kernel
theorem dX8_partInLowestTerms_2 : decode cX8_partInLowestTerms 2 = .ok (.invokestatic 254, 3) := by decide +kernel
theorem dX8_partInLowestTerms_5 : decode cX8_partInLowestTerms 5 = .ok (.lstore 5, 2) := by decide +kernel
theorem dX8_partInLowestTerms_7 : decode cX8_partInLowestTerms 7 = .ok (.iload 4, 2) := by decide +kernel
theorem dX8_partInLowestTerms_9 : decode cX8_partInLowestTerms 9 = .ok (.ifCond .ne 10, 3) := by decide +kernel
theorem dX8_partInLowestTerms_12 : decode cX8_partInLowestTerms 12 = .ok (.lload_n 0, 1) := by decide +kernel
theorem dX8_partInLowestTerms_13 : decode cX8_partInLowestTerms 13 = .ok (.lload 5, 2) := by decide +kernel
theorem dX8_partInLowestTerms_15 : decode cX8_partInLowestTerms 15 = .ok (.ldiv, 1) := by decide +kernel
theorem dX8_partInLowestTerms_16 : decode cX8_partInLowestTerms 16 = .ok (.goto 7, 3) := by decide +kernel
theorem dX8_partInLowestTerms_19 : decode cX8_partInLowestTerms 19 = .ok (.lload_n 2, 1) := by decide +kernel
theorem dX8_partInLowestTerms_20 : decode cX8_partInLowestTerms 20 = .ok (.lload 5, 2) := by decide +kernel
theorem dX8_partInLowestTerms_22 : decode cX8_partInLowestTerms 22 = .ok (.ldiv, 1) := by decide +kernel
theorem dX8_partInLowestTerms_23 : decode cX8_partInLowestTerms 23 = .ok (.lreturn, 1) := by decide +kernel
theorem dX8_commonDivisor_0 : decode cX8_commonDivisor 0 = .ok (.lload_n 0, 1) := by decide +kernel
theorem dX8_commonDivisor_1 : decode cX8_commonDivisor 1 = .ok (.lstore 4, 2) := by decide +kernel
theorem dX8_commonDivisor_3 : decode cX8_commonDivisor 3 = .ok (.lload_n 2, 1) := by decide +kernel
theorem dX8_commonDivisor_4 : decode cX8_commonDivisor 4 = .ok (.lstore 6, 2) := by decide +kernel
theorem dX8_commonDivisor_6 : decode cX8_commonDivisor 6 = .ok (.iconst 0, 1) := by decide +kernel
theorem dX8_commonDivisor_7 : decode cX8_commonDivisor 7 = .ok (.istore 8, 2) := by decide +kernel
theorem dX8_commonDivisor_9 : decode cX8_commonDivisor 9 = .ok (.iload 8, 2) := by decide +kernel
theorem dX8_commonDivisor_11 : decode cX8_commonDivisor 11 = .ok (.sipush 128, 3) := by decide +kernel
theorem dX8_commonDivisor_14 : decode cX8_commonDivisor 14 = .ok (.if_icmp .ge 31, 3) := by decide +kernel
theorem dX8_commonDivisor_17 : decode cX8_commonDivisor 17 = .ok (.lload 6, 2) := by decide +kernel
theorem dX8_commonDivisor_19 : decode cX8_commonDivisor 19 = .ok (.lconst 0, 1) := by decide +kernel
theorem dX8_commonDivisor_20 : decode cX8_commonDivisor 20 = .ok (.lcmp, 1) := by decide +kernel
theorem dX8_commonDivisor_21 : decode cX8_commonDivisor 21 = .ok (.ifCond .eq 24, 3) := by decide +kernel
theorem dX8_commonDivisor_24 : decode cX8_commonDivisor 24 = .ok (.lload 4, 2) := by decide +kernel
theorem dX8_commonDivisor_26 : decode cX8_commonDivisor 26 = .ok (.lload 6, 2) := by decide +kernel
theorem dX8_commonDivisor_28 : decode cX8_commonDivisor 28 = .ok (.lrem, 1) := by decide +kernel
theorem dX8_commonDivisor_29 : decode cX8_commonDivisor 29 = .ok (.lstore 9, 2) := by decide +kernel
theorem dX8_commonDivisor_31 : decode cX8_commonDivisor 31 = .ok (.lload 6, 2) := by decide +kernel
theorem dX8_commonDivisor_33 : decode cX8_commonDivisor 33 = .ok (.lstore 4, 2) := by decide +kernel
theorem dX8_commonDivisor_35 : decode cX8_commonDivisor 35 = .ok (.lload 9, 2) := by decide +kernel
theorem dX8_commonDivisor_37 : decode cX8_commonDivisor 37 = .ok (.lstore 6, 2) := by decide +kernel
theorem dX8_commonDivisor_39 : decode cX8_commonDivisor 39 = .ok (.iinc 8 1, 3) := by decide +kernel
theorem dX8_commonDivisor_42 : decode cX8_commonDivisor 42 = .ok (.goto (-33), 3) := by decide +kernel
theorem dX8_commonDivisor_45 : decode cX8_commonDivisor 45 = .ok (.lconst 1, 1) := by decide +kernel
theorem dX8_commonDivisor_46 : decode cX8_commonDivisor 46 = .ok (.lload 4, 2) := by decide +kernel
theorem dX8_commonDivisor_48 : decode cX8_commonDivisor 48 = .ok (.invokestatic 258, 3) := by decide +kernel
theorem dX8_commonDivisor_51 : decode cX8_commonDivisor 51 = .ok (.lreturn, 1) := by decide +kernel
theorem dX9_init_0 : decode cX9_init 0 = .ok (.aload_n 0, 1) := by decide +kernel
theorem dX9_init_1 : decode cX9_init 1 = .ok (.invokespecial 1, 3) := by decide +kernel
theorem dX9_init_4 : decode cX9_init 4 = .ok (.aload_n 0, 1) := by decide +kernel
theorem dX9_init_5 : decode cX9_init 5 = .ok (.bipush 10, 2) := by decide +kernel
theorem dX9_init_7 : decode cX9_init 7 = .ok (.newarray .int, 2) := by decide +kernel
theorem dX9_init_9 : decode cX9_init 9 = .ok (.putfield 7, 3) := by decide +kernel
theorem dX9_init_12 : decode cX9_init 12 = .ok (.aload_n 0, 1) := by decide +kernel
theorem dX9_init_13 : decode cX9_init 13 = .ok (.bipush 10, 2) := by decide +kernel
theorem dX9_init_15 : decode cX9_init 15 = .ok (.newarray .int, 2) := by decide +kernel
theorem dX9_init_17 : decode cX9_init 17 = .ok (.putfield 13, 3) := by decide +kernel
theorem dX9_init_20 : decode cX9_init 20 = .ok (.aload_n 0, 1) := by decide +kernel
theorem dX9_init_21 : decode cX9_init 21 = .ok (.bipush 10, 2) := by decide +kernel
theorem dX9_init_23 : decode cX9_init 23 = .ok (.newarray .int, 2) := by decide +kernel
theorem dX9_init_25 : decode cX9_init 25 = .ok (.putfield 16, 3) := by decide +kernel
theorem dX9_init_28 : decode cX9_init 28 = .ok (.aload_n 0, 1) := by decide +kernel
theorem dX9_init_29 : decode cX9_init 29 = .ok (.bipush 8, 2) := by decide +kernel
theorem dX9_init_31 : decode cX9_init 31 = .ok (.newarray .int, 2) := by decide +kernel
theorem dX9_init_33 : decode cX9_init 33 = .ok (.putfield 19, 3) := by decide +kernel
theorem dX9_init_36 : decode cX9_init 36 = .ok (.aload_n 0, 1) := by decide +kernel
theorem dX9_init_37 : decode cX9_init 37 = .ok (.bipush 8, 2) := by decide +kernel
theorem dX9_init_39 : decode cX9_init 39 = .ok (.newarray .int, 2) := by decide +kernel
theorem dX9_init_41 : decode cX9_init 41 = .ok (.putfield 22, 3) := by decide +kernel
theorem dX9_init_44 : decode cX9_init 44 = .ok (.aload_n 0, 1) := by decide +kernel
theorem dX9_init_45 : decode cX9_init 45 = .ok (.bipush 60, 2) := by decide +kernel
theorem dX9_init_47 : decode cX9_init 47 = .ok (.newarray .int, 2) := by decide +kernel
theorem dX9_init_49 : decode cX9_init 49 = .ok (.putfield 25, 3) := by decide +kernel
theorem dX9_init_52 : decode cX9_init 52 = .ok (.aload_n 0, 1) := by decide +kernel
theorem dX9_init_53 : decode cX9_init 53 = .ok (.bipush 60, 2) := by decide +kernel
theorem dX9_init_55 : decode cX9_init 55 = .ok (.newarray .int, 2) := by decide +kernel
theorem dX9_init_57 : decode cX9_init 57 = .ok (.putfield 28, 3) := by decide +kernel
theorem dX9_init_60 : decode cX9_init 60 = .ok (.aload_n 0, 1) := by decide +kernel
theorem dX9_init_61 : decode cX9_init 61 = .ok (.bipush 60, 2) := by decide +kernel
theorem dX9_init_63 : decode cX9_init 63 = .ok (.newarray .int, 2) := by decide +kernel
theorem dX9_init_65 : decode cX9_init 65 = .ok (.putfield 31, 3) := by decide +kernel
theorem dX9_init_68 : decode cX9_init 68 = .ok (.aload_n 0, 1) := by decide +kernel
theorem dX9_init_69 : decode cX9_init 69 = .ok (.bipush 60, 2) := by decide +kernel
theorem dX9_init_71 : decode cX9_init 71 = .ok (.newarray .int, 2) := by decide +kernel
theorem dX9_init_73 : decode cX9_init 73 = .ok (.putfield 34, 3) := by decide +kernel
theorem dX9_init_76 : decode cX9_init 76 = .ok (.aload_n 0, 1) := by decide +kernel
theorem dX9_init_77 : decode cX9_init 77 = .ok (.bipush 33, 2) := by decide +kernel
theorem dX9_init_79 : decode cX9_init 79 = .ok (.newarray .int, 2) := by decide +kernel
theorem dX9_init_81 : decode cX9_init 81 = .ok (.putfield 37, 3) := by decide +kernel
theorem dX9_init_84 : decode cX9_init 84 = .ok (.aload_n 0, 1) := by decide +kernel
theorem dX9_init_85 : decode cX9_init 85 = .ok (.sipush 10240, 3) := by decide +kernel
theorem dX9_init_88 : decode cX9_init 88 = .ok (.newarray .int, 2) := by decide +kernel
theorem dX9_init_90 : decode cX9_init 90 = .ok (.putfield 40, 3) := by decide +kernel
theorem dX9_init_93 : decode cX9_init 93 = .ok (.aload_n 0, 1) := by decide +kernel
theorem dX9_init_94 : decode cX9_init 94 = .ok (.sipush 1024, 3) := by decide +kernel
theorem dX9_init_97 : decode cX9_init 97 = .ok (.newarray .int, 2) := by decide +kernel
theorem dX9_init_99 : decode cX9_init 99 = .ok (.putfield 43, 3) := by decide +kernel
theorem dX9_init_102 : decode cX9_init 102 = .ok (.aload_n 0, 1) := by decide +kernel
theorem dX9_init_103 : decode cX9_init 103 = .ok (.sipush 1024, 3) := by decide +kernel
theorem dX9_init_106 : decode cX9_init 106 = .ok (.newarray .boolean, 2) := by decide +kernel
theorem dX9_init_108 : decode cX9_init 108 = .ok (.putfield 46, 3) := by decide +kernel
theorem dX9_init_111 : decode cX9_init 111 = .ok (.aload_n 0, 1) := by decide +kernel
theorem dX9_init_112 : decode cX9_init 112 = .ok (.bipush 100, 2) := by decide +kernel
theorem dX9_init_114 : decode cX9_init 114 = .ok (.newarray .int, 2) := by decide +kernel
theorem dX9_init_116 : decode cX9_init 116 = .ok (.putfield 50, 3) := by decide +kernel
theorem dX9_init_119 : decode cX9_init 119 = .ok (.aload_n 0, 1) := by decide +kernel
theorem dX9_init_120 : decode cX9_init 120 = .ok (.sipush 256, 3) := by decide +kernel
theorem dX9_init_123 : decode cX9_init 123 = .ok (.newarray .boolean, 2) := by decide +kernel
theorem dX9_init_125 : decode cX9_init 125 = .ok (.putfield 53, 3) := by decide +kernel
theorem dX9_init_128 : decode cX9_init 128 = .ok (.aload_n 0, 1) := by decide +kernel
theorem dX9_init_129 : decode cX9_init 129 = .ok (.bipush 120, 2) := by decide +kernel
theorem dX9_init_131 : decode cX9_init 131 = .ok (.newarray .int, 2) := by decide +kernel
theorem dX9_init_133 : decode cX9_init 133 = .ok (.putfield 56, 3) := by decide +kernel
theorem dX9_init_136 : decode cX9_init 136 = .ok (.aload_n 0, 1) := by decide +kernel
theorem dX9_init_137 : decode cX9_init 137 = .ok (.iconst 2, 1) := by decide +kernel
theorem dX9_init_138 : decode cX9_init 138 = .ok (.newarray .boolean, 2) := by decide +kernel
theorem dX9_init_140 : decode cX9_init 140 = .ok (.putfield 59, 3) := by decide +kernel
theorem dX9_init_143 : decode cX9_init 143 = .ok (.aload_n 0, 1) := by decide +kernel
theorem dX9_init_144 : decode cX9_init 144 = .ok (.sipush 1023, 3) := by decide +kernel
theorem dX9_init_147 : decode cX9_init 147 = .ok (.putfield 62, 3) := by decide +kernel
theorem dX9_init_150 : decode cX9_init 150 = .ok (.aload_n 0, 1) := by decide +kernel
theorem dX9_init_151 : decode cX9_init 151 = .ok (.bipush 20, 2) := by decide +kernel
theorem dX9_init_153 : decode cX9_init 153 = .ok (.putfield 66, 3) := by decide +kernel
theorem dX9_init_156 : decode cX9_init 156 = .ok (.iconst 0, 1) := by decide +kernel
theorem dX9_init_157 : decode cX9_init 157 = .ok (.istore_n 1, 1) := by decide +kernel
theorem dX9_init_158 : decode cX9_init 158 = .ok (.iload_n 1, 1) := by decide +kernel
theorem dX9_init_159 : decode cX9_init 159 = .ok (.bipush 10, 2) := by decide +kernel
theorem dX9_init_161 : decode cX9_init 161 = .ok (.if_icmp .ge 24, 3) := by decide +kernel
theorem dX9_init_164 : decode cX9_init 164 = .ok (.aload_n 0, 1) := by decide +kernel
theorem dX9_init_165 : decode cX9_init 165 = .ok (.getfield 7, 3) := by decide +kernel
theorem dX9_init_168 : decode cX9_init 168 = .ok (.iload_n 1, 1) := by decide +kernel
theorem dX9_init_169 : decode cX9_init 169 = .ok (.bipush 50, 2) := by decide +kernel
theorem dX9_init_171 : decode cX9_init 171 = .ok (.iastore, 1) := by decide +kernel
theorem dX9_init_172 : decode cX9_init 172 = .ok (.aload_n 0, 1) := by decide +kernel
theorem dX9_init_173 : decode cX9_init 173 = .ok (.getfield 16, 3) := by decide +kernel
theorem dX9_init_176 : decode cX9_init 176 = .ok (.iload_n 1, 1) := by decide +kernel
theorem dX9_init_177 : decode cX9_init 177 = .ok (.iload_n 1, 1) := by decide +kernel
theorem dX9_init_178 : decode cX9_init 178 = .ok (.iastore, 1) := by decide +kernel
theorem dX9_init_179 : decode cX9_init 179 = .ok (.iinc 1 1, 3) := by decide +kernel
theorem dX9_init_182 : decode cX9_init 182 = .ok (.goto (-24), 3) := by decide +kernel
theorem dX9_init_185 : decode cX9_init 185 = .ok (.return_, 1) := by decide +kernel
theorem dX9_in_0 : decode cX9_in 0 = .ok (.lload_n 0, 1) := by decide +kernel
theorem dX9_in_1 : decode cX9_in 1 = .ok (.lload_n 2, 1) := by decide +kernel
theorem dX9_in_2 : decode cX9_in 2 = .ok (.lcmp, 1) := by decide +kernel
theorem dX9_in_3 : decode cX9_in 3 = .ok (.ifCond .lt 14, 3) := by decide +kernel
theorem dX9_in_6 : decode cX9_in 6 = .ok (.lload_n 0, 1) := by decide +kernel
theorem dX9_in_7 : decode cX9_in 7 = .ok (.lload 4, 2) := by decide +kernel
theorem dX9_in_9 : decode cX9_in 9 = .ok (.lcmp, 1) := by decide +kernel
theorem dX9_in_10 : decode cX9_in 10 = .ok (.ifCond .gt 7, 3) := by decide +kernel
theorem dX9_in_13 : decode cX9_in 13 = .ok (.iconst 1, 1) := by decide +kernel
theorem dX9_in_14 : decode cX9_in 14 = .ok (.goto 4, 3) := by decide +kernel
theorem dX9_in_17 : decode cX9_in 17 = .ok (.iconst 0, 1) := by decide +kernel
theorem dX9_in_18 : decode cX9_in 18 = .ok (.ireturn, 1) := by decide +kernel
theorem dX9_ones_0 : decode cX9_ones 0 = .ok (.iconst 0, 1) := by decide +kernel
theorem dX9_ones_1 : decode cX9_ones 1 = .ok (.istore_n 1, 1) := by decide +kernel
theorem dX9_ones_2 : decode cX9_ones 2 = .ok (.iload_n 0, 1) := by decide +kernel
theorem dX9_ones_3 : decode cX9_ones 3 = .ok (.istore_n 2, 1) := by decide +kernel
theorem dX9_ones_4 : decode cX9_ones 4 = .ok (.iload_n 2, 1) := by decide +kernel
theorem dX9_ones_5 : decode cX9_ones 5 = .ok (.ifCond .eq 15, 3) := by decide +kernel
theorem dX9_ones_8 : decode cX9_ones 8 = .ok (.iinc 1 1, 3) := by decide +kernel
theorem dX9_ones_11 : decode cX9_ones 11 = .ok (.iload_n 2, 1) := by decide +kernel
theorem dX9_ones_12 : decode cX9_ones 12 = .ok (.iload_n 2, 1) := by decide +kernel
theorem dX9_ones_13 : decode cX9_ones 13 = .ok (.iconst 1, 1) := by decide +kernel
theorem dX9_ones_14 : decode cX9_ones 14 = .ok (.isub, 1) := by decide +kernel
theorem dX9_ones_15 : decode cX9_ones 15 = .ok (.iand, 1) := by decide +kernel
theorem dX9_ones_16 : decode cX9_ones 16 = .ok (.istore_n 2, 1) := by decide +kernel
theorem dX9_ones_17 : decode cX9_ones 17 = .ok (.goto (-13), 3) := by decide +kernel
theorem dX9_ones_20 : decode cX9_ones 20 = .ok (.iload_n 1, 1) := by decide +kernel
theorem dX9_ones_21 : decode cX9_ones 21 = .ok (.ireturn, 1) := by decide +kernel
set_option maxRecDepth 20000 in
theorem ggX9_isHassock_X9_in : GoodIn wsX9_isHassock wsX9_in := goodIn_r _ [5] rfl (by decide +kernel)
set_option maxRecDepth 20000 in
theorem gX9_isHassock_X9_in : GoodIn wsX9_isHassock (va_wsS RX9 71 yX9_in wsX9_in) := goodIn_app (goodIn_r _ [2, 3, 4] rfl (by decide +kernel)) ggX9_isHassock_X9_in
theorem dX9_isHassock_0 : decode cX9_isHassock 0 = .ok (.iload_n 0, 1) := by decide +kernel
theorem dX9_isHassock_1 : decode cX9_isHassock 1 = .ok (.i2l, 1) := by decide +kernel
theorem dX9_isHassock_2 : decode cX9_isHassock 2 = .ok (.lconst 0, 1) := by decide +kernel
theorem dX9_isHassock_3 : decode cX9_isHassock 3 = .ok (.ldc2_w 69, 3) := by decide +kernel
theorem dX9_isHassock_6 : decode cX9_isHassock 6 = .ok (.invokestatic 71, 3) := by decide +kernel
theorem dX9_isHassock_9 : decode cX9_isHassock 9 = .ok (.ireturn, 1) := by decide +kernel
theorem dX9_has_0 : decode cX9_has 0 = .ok (.iload_n 0, 1) := by decide +kernel
theorem dX9_has_1 : decode cX9_has 1 = .ok (.iload_n 1, 1) := by decide +kernel
theorem dX9_has_2 : decode cX9_has 2 = .ok (.ishr, 1) := by decide +kernel
theorem dX9_has_3 : decode cX9_has 3 = .ok (.iconst 1, 1) := by decide +kernel
theorem dX9_has_4 : decode cX9_has 4 = .ok (.iand, 1) := by decide +kernel
theorem dX9_has_5 : decode cX9_has 5 = .ok (.iconst 1, 1) := by decide +kernel
theorem dX9_has_6 : decode cX9_has 6 = .ok (.if_icmp .ne 7, 3) := by decide +kernel
theorem dX9_has_9 : decode cX9_has 9 = .ok (.iconst 1, 1) := by decide +kernel
theorem dX9_has_10 : decode cX9_has 10 = .ok (.goto 4, 3) := by decide +kernel
theorem dX9_has_13 : decode cX9_has 13 = .ok (.iconst 0, 1) := by decide +kernel
theorem dX9_has_14 : decode cX9_has 14 = .ok (.ireturn, 1) := by decide +kernel
theorem dX9_less_0 : decode cX9_less 0 = .ok (.iload_n 0, 1) := by decide +kernel
theorem dX9_less_1 : decode cX9_less 1 = .ok (.iload_n 1, 1) := by decide +kernel
theorem dX9_less_2 : decode cX9_less 2 = .ok (.if_icmp .ge 7, 3) := by decide +kernel
theorem dX9_less_5 : decode cX9_less 5 = .ok (.iload_n 0, 1) := by decide +kernel
theorem dX9_less_6 : decode cX9_less 6 = .ok (.goto 4, 3) := by decide +kernel
theorem dX9_less_9 : decode cX9_less 9 = .ok (.iload_n 1, 1) := by decide +kernel
theorem dX9_less_10 : decode cX9_less 10 = .ok (.ireturn, 1) := by decide +kernel
set_option maxRecDepth 20000 in
theorem ggX9_hassock_X9_isHassock : GoodIn wsX9_hassock wsX9_isHassock := goodIn_r _ [9, 10, 11, 12, 8, 13] rfl (by decide +kernel)
set_option maxRecDepth 20000 in
theorem gX9_hassock_X9_isHassock : GoodIn wsX9_hassock (va_wsS RX9 75 yX9_isHassock wsX9_isHassock) := goodIn_app (goodIn_r _ [6, 7, 8] rfl (by decide +kernel)) ggX9_hassock_X9_isHassock
set_option maxRecDepth 20000 in
theorem ggX9_hassock_X9_in : GoodIn wsX9_hassock wsX9_in := goodIn_r _ [13] rfl (by decide +kernel)
set_option maxRecDepth 20000 in
theorem gX9_hassock_X9_in : GoodIn wsX9_hassock (va_wsS RX9 71 yX9_in wsX9_in) := goodIn_app (goodIn_r _ [11, 12, 8] rfl (by decide +kernel)) ggX9_hassock_X9_in
set_option maxRecDepth 20000 in
theorem ggX9_hassock_X9_ones : GoodIn wsX9_hassock wsX9_ones := goodIn_r _ [16] rfl (by decide +kernel)
set_option maxRecDepth 20000 in
theorem gX9_hassock_X9_ones : GoodIn wsX9_hassock (va_wsS RX9 83 yX9_ones wsX9_ones) := goodIn_app (goodIn_r _ [14, 15, 8] rfl (by decide +kernel)) ggX9_hassock_X9_ones
theorem dX9_hassock_0 : decode cX9_hassock 0 = .ok (.iload_n 1, 1) := by decide +kernel
theorem dX9_hassock_1 : decode cX9_hassock 1 = .ok (.invokestatic 75, 3) := by decide +kernel
theorem dX9_hassock_4 : decode cX9_hassock 4 = .ok (.ifCond .ne 5, 3) := by decide +kernel
theorem dX9_hassock_7 : decode cX9_hassock 7 = .ok (.iconst (-1), 1) := by decide +kernel
theorem dX9_hassock_8 : decode cX9_hassock 8 = .ok (.ireturn, 1) := by decide +kernel
theorem dX9_hassock_9 : decode cX9_hassock 9 = .ok (.iload_n 2, 1) := by decide +kernel
theorem dX9_hassock_10 : decode cX9_hassock 10 = .ok (.i2l, 1) := by decide +kernel
theorem dX9_hassock_11 : decode cX9_hassock 11 = .ok (.lconst 1, 1) := by decide +kernel
theorem dX9_hassock_12 : decode cX9_hassock 12 = .ok (.ldc2_w 79, 3) := by decide +kernel
theorem dX9_hassock_15 : decode cX9_hassock 15 = .ok (.invokestatic 71, 3) := by decide +kernel
theorem dX9_hassock_18 : decode cX9_hassock 18 = .ok (.ifCond .eq 15, 3) := by decide +kernel
theorem dX9_hassock_21 : decode cX9_hassock 21 = .ok (.iload_n 3, 1) := by decide +kernel
theorem dX9_hassock_22 : decode cX9_hassock 22 = .ok (.i2l, 1) := by decide +kernel
theorem dX9_hassock_23 : decode cX9_hassock 23 = .ok (.lconst 0, 1) := by decide +kernel
theorem dX9_hassock_24 : decode cX9_hassock 24 = .ok (.ldc2_w 81, 3) := by decide +kernel
theorem dX9_hassock_27 : decode cX9_hassock 27 = .ok (.invokestatic 71, 3) := by decide +kernel
theorem dX9_hassock_30 : decode cX9_hassock 30 = .ok (.ifCond .ne 6, 3) := by decide +kernel
theorem dX9_hassock_33 : decode cX9_hassock 33 = .ok (.bipush (-2), 2) := by decide +kernel
theorem dX9_hassock_35 : decode cX9_hassock 35 = .ok (.ireturn, 1) := by decide +kernel
theorem dX9_hassock_36 : decode cX9_hassock 36 = .ok (.aload_n 0, 1) := by decide +kernel
theorem dX9_hassock_37 : decode cX9_hassock 37 = .ok (.dup, 1) := by decide +kernel
theorem dX9_hassock_38 : decode cX9_hassock 38 = .ok (.getfield 62, 3) := by decide +kernel
theorem dX9_hassock_41 : decode cX9_hassock 41 = .ok (.iconst 1, 1) := by decide +kernel
theorem dX9_hassock_42 : decode cX9_hassock 42 = .ok (.iload_n 1, 1) := by decide +kernel
theorem dX9_hassock_43 : decode cX9_hassock 43 = .ok (.ishl, 1) := by decide +kernel
theorem dX9_hassock_44 : decode cX9_hassock 44 = .ok (.ior, 1) := by decide +kernel
theorem dX9_hassock_45 : decode cX9_hassock 45 = .ok (.putfield 62, 3) := by decide +kernel
theorem dX9_hassock_48 : decode cX9_hassock 48 = .ok (.aload_n 0, 1) := by decide +kernel
theorem dX9_hassock_49 : decode cX9_hassock 49 = .ok (.getfield 7, 3) := by decide +kernel
theorem dX9_hassock_52 : decode cX9_hassock 52 = .ok (.iload_n 1, 1) := by decide +kernel
theorem dX9_hassock_53 : decode cX9_hassock 53 = .ok (.iload_n 2, 1) := by decide +kernel
theorem dX9_hassock_54 : decode cX9_hassock 54 = .ok (.iastore, 1) := by decide +kernel
theorem dX9_hassock_55 : decode cX9_hassock 55 = .ok (.aload_n 0, 1) := by decide +kernel
theorem dX9_hassock_56 : decode cX9_hassock 56 = .ok (.getfield 13, 3) := by decide +kernel
theorem dX9_hassock_59 : decode cX9_hassock 59 = .ok (.iload_n 1, 1) := by decide +kernel
theorem dX9_hassock_60 : decode cX9_hassock 60 = .ok (.iload_n 3, 1) := by decide +kernel
theorem dX9_hassock_61 : decode cX9_hassock 61 = .ok (.iastore, 1) := by decide +kernel
theorem dX9_hassock_62 : decode cX9_hassock 62 = .ok (.aload_n 0, 1) := by decide +kernel
theorem dX9_hassock_63 : decode cX9_hassock 63 = .ok (.getfield 62, 3) := by decide +kernel
theorem dX9_hassock_66 : decode cX9_hassock 66 = .ok (.invokestatic 83, 3) := by decide +kernel
theorem dX9_hassock_69 : decode cX9_hassock 69 = .ok (.ireturn, 1) := by decide +kernel
set_option maxRecDepth 20000 in
theorem ggX9_gone_X9_isHassock : GoodIn wsX9_gone wsX9_isHassock := goodIn_r _ [5, 6, 7, 8, 4, 9] rfl (by decide +kernel)
set_option maxRecDepth 20000 in
theorem gX9_gone_X9_isHassock : GoodIn wsX9_gone (va_wsS RX9 75 yX9_isHassock wsX9_isHassock) := goodIn_app (goodIn_r _ [2, 3, 4] rfl (by decide +kernel)) ggX9_gone_X9_isHassock
set_option maxRecDepth 20000 in
theorem ggX9_gone_X9_has : GoodIn wsX9_gone wsX9_has := goodIn_r _ [12] rfl (by decide +kernel)
set_option maxRecDepth 20000 in
theorem gX9_gone_X9_has : GoodIn wsX9_gone (va_wsS RX9 87 yX9_has wsX9_has) := goodIn_app (goodIn_r _ [10, 11, 4] rfl (by decide +kernel)) ggX9_gone_X9_has
set_option maxRecDepth 20000 in
theorem ggX9_gone_X9_ones : GoodIn wsX9_gone wsX9_ones := goodIn_r _ [15] rfl (by decide +kernel)
set_option maxRecDepth 20000 in
theorem gX9_gone_X9_ones : GoodIn wsX9_gone (va_wsS RX9 83 yX9_ones wsX9_ones) := goodIn_app (goodIn_r _ [13, 14, 4] rfl (by decide +kernel)) ggX9_gone_X9_ones
theorem dX9_gone_0 : decode cX9_gone 0 = .ok (.iload_n 1, 1) := by decide +kernel
theorem dX9_gone_1 : decode cX9_gone 1 = .ok (.invokestatic 75, 3) := by decide +kernel
theorem dX9_gone_4 : decode cX9_gone 4 = .ok (.ifCond .eq 14, 3) := by decide +kernel
theorem dX9_gone_7 : decode cX9_gone 7 = .ok (.aload_n 0, 1) := by decide +kernel
theorem dX9_gone_8 : decode cX9_gone 8 = .ok (.getfield 62, 3) := by decide +kernel
theorem dX9_gone_11 : decode cX9_gone 11 = .ok (.iload_n 1, 1) := by decide +kernel
theorem dX9_gone_12 : decode cX9_gone 12 = .ok (.invokestatic 87, 3) := by decide +kernel
theorem dX9_gone_15 : decode cX9_gone 15 = .ok (.ifCond .ne 5, 3) := by decide +kernel
theorem dX9_gone_18 : decode cX9_gone 18 = .ok (.iconst (-1), 1) := by decide +kernel
theorem dX9_gone_19 : decode cX9_gone 19 = .ok (.ireturn, 1) := by decide +kernel
theorem dX9_gone_20 : decode cX9_gone 20 = .ok (.aload_n 0, 1) := by decide +kernel
theorem dX9_gone_21 : decode cX9_gone 21 = .ok (.dup, 1) := by decide +kernel
theorem dX9_gone_22 : decode cX9_gone 22 = .ok (.getfield 62, 3) := by decide +kernel
theorem dX9_gone_25 : decode cX9_gone 25 = .ok (.iconst 1, 1) := by decide +kernel
theorem dX9_gone_26 : decode cX9_gone 26 = .ok (.iload_n 1, 1) := by decide +kernel
theorem dX9_gone_27 : decode cX9_gone 27 = .ok (.ishl, 1) := by decide +kernel
theorem dX9_gone_28 : decode cX9_gone 28 = .ok (.iconst (-1), 1) := by decide +kernel
theorem dX9_gone_29 : decode cX9_gone 29 = .ok (.ixor, 1) := by decide +kernel
theorem dX9_gone_30 : decode cX9_gone 30 = .ok (.iand, 1) := by decide +kernel
theorem dX9_gone_31 : decode cX9_gone 31 = .ok (.putfield 62, 3) := by decide +kernel
theorem dX9_gone_34 : decode cX9_gone 34 = .ok (.aload_n 0, 1) := by decide +kernel
theorem dX9_gone_35 : decode cX9_gone 35 = .ok (.getfield 62, 3) := by decide +kernel
theorem dX9_gone_38 : decode cX9_gone 38 = .ok (.invokestatic 83, 3) := by decide +kernel
theorem dX9_gone_41 : decode cX9_gone 41 = .ok (.ireturn, 1) := by decide +kernel
set_option maxRecDepth 20000 in
theorem ggX9_hair_X9_in : GoodIn wsX9_hair wsX9_in := goodIn_r _ [6] rfl (by decide +kernel)
set_option maxRecDepth 20000 in
theorem gX9_hair_X9_in : GoodIn wsX9_hair (va_wsS RX9 71 yX9_in wsX9_in) := goodIn_app (goodIn_r _ [3, 4, 5] rfl (by decide +kernel)) ggX9_hair_X9_in
theorem dX9_hair_0 : decode cX9_hair 0 = .ok (.iload_n 1, 1) := by decide +kernel
theorem dX9_hair_1 : decode cX9_hair 1 = .ok (.i2l, 1) := by decide +kernel
theorem dX9_hair_2 : decode cX9_hair 2 = .ok (.lconst 0, 1) := by decide +kernel
theorem dX9_hair_3 : decode cX9_hair 3 = .ok (.ldc2_w 91, 3) := by decide +kernel
theorem dX9_hair_6 : decode cX9_hair 6 = .ok (.invokestatic 71, 3) := by decide +kernel
theorem dX9_hair_9 : decode cX9_hair 9 = .ok (.ifCond .ne 6, 3) := by decide +kernel
theorem dX9_hair_12 : decode cX9_hair 12 = .ok (.bipush (-2), 2) := by decide +kernel
theorem dX9_hair_14 : decode cX9_hair 14 = .ok (.ireturn, 1) := by decide +kernel
theorem dX9_hair_15 : decode cX9_hair 15 = .ok (.aload_n 0, 1) := by decide +kernel
theorem dX9_hair_16 : decode cX9_hair 16 = .ok (.getfield 66, 3) := by decide +kernel
theorem dX9_hair_19 : decode cX9_hair 19 = .ok (.istore_n 2, 1) := by decide +kernel
theorem dX9_hair_20 : decode cX9_hair 20 = .ok (.aload_n 0, 1) := by decide +kernel
theorem dX9_hair_21 : decode cX9_hair 21 = .ok (.iload_n 1, 1) := by decide +kernel
theorem dX9_hair_22 : decode cX9_hair 22 = .ok (.putfield 66, 3) := by decide +kernel
theorem dX9_hair_25 : decode cX9_hair 25 = .ok (.iload_n 2, 1) := by decide +kernel
theorem dX9_hair_26 : decode cX9_hair 26 = .ok (.ireturn, 1) := by decide +kernel
theorem dX9_change_0 : decode cX9_change 0 = .ok (.aload_n 0, 1) := by decide +kernel
theorem dX9_change_1 : decode cX9_change 1 = .ok (.getfield 16, 3) := by decide +kernel
theorem dX9_change_4 : decode cX9_change 4 = .ok (.iload_n 1, 1) := by decide +kernel
theorem dX9_change_5 : decode cX9_change 5 = .ok (.iaload, 1) := by decide +kernel
theorem dX9_change_6 : decode cX9_change 6 = .ok (.istore_n 3, 1) := by decide +kernel
theorem dX9_change_7 : decode cX9_change 7 = .ok (.aload_n 0, 1) := by decide +kernel
theorem dX9_change_8 : decode cX9_change 8 = .ok (.getfield 16, 3) := by decide +kernel
theorem dX9_change_11 : decode cX9_change 11 = .ok (.iload_n 1, 1) := by decide +kernel
theorem dX9_change_12 : decode cX9_change 12 = .ok (.aload_n 0, 1) := by decide +kernel
theorem dX9_change_13 : decode cX9_change 13 = .ok (.getfield 16, 3) := by decide +kernel
theorem dX9_change_16 : decode cX9_change 16 = .ok (.iload_n 2, 1) := by decide +kernel
theorem dX9_change_17 : decode cX9_change 17 = .ok (.iaload, 1) := by decide +kernel
theorem dX9_change_18 : decode cX9_change 18 = .ok (.iastore, 1) := by decide +kernel
theorem dX9_change_19 : decode cX9_change 19 = .ok (.aload_n 0, 1) := by decide +kernel
theorem dX9_change_20 : decode cX9_change 20 = .ok (.getfield 16, 3) := by decide +kernel
theorem dX9_change_23 : decode cX9_change 23 = .ok (.iload_n 2, 1) := by decide +kernel
theorem dX9_change_24 : decode cX9_change 24 = .ok (.iload_n 3, 1) := by decide +kernel
theorem dX9_change_25 : decode cX9_change 25 = .ok (.iastore, 1) := by decide +kernel
theorem dX9_change_26 : decode cX9_change 26 = .ok (.return_, 1) := by decide +kernel
set_option maxRecDepth 20000 in
theorem ggX9_swap_X9_isHassock : GoodIn wsX9_swap wsX9_isHassock := goodIn_r _ [5, 6, 7, 8, 4, 9] rfl (by decide +kernel)
set_option maxRecDepth 20000 in
theorem gX9_swap_X9_isHassock : GoodIn wsX9_swap (va_wsS RX9 75 yX9_isHassock wsX9_isHassock) := goodIn_app (goodIn_r _ [2, 3, 4] rfl (by decide +kernel)) ggX9_swap_X9_isHassock
set_option maxRecDepth 20000 in
theorem ggX9_swap_X9_change : GoodIn wsX9_swap wsX9_change := goodIn_r _ [13, 1, 14, 15, 16, 17, 18, 19, 20, 21, 22, 23, 24, 25, 26, 27, 28, 29, 30, 31, 32, 33, 34, 35, 36, 37, 38, 39, 40, 41, 42, 43] rfl (by decide +kernel)
set_option maxRecDepth 20000 in
theorem gX9_swap_X9_change : GoodIn wsX9_swap (wsV RX9 93 RX9 yX9_change wsX9_change) := goodIn_app (goodIn_r _ [10, 11, 12, 4] rfl (by decide +kernel)) ggX9_swap_X9_change
theorem dX9_swap_0 : decode cX9_swap 0 = .ok (.iload_n 1, 1) := by decide +kernel
theorem dX9_swap_1 : decode cX9_swap 1 = .ok (.invokestatic 75, 3) := by decide +kernel
theorem dX9_swap_4 : decode cX9_swap 4 = .ok (.ifCond .eq 15, 3) := by decide +kernel
theorem dX9_swap_7 : decode cX9_swap 7 = .ok (.iload_n 2, 1) := by decide +kernel
theorem dX9_swap_8 : decode cX9_swap 8 = .ok (.invokestatic 75, 3) := by decide +kernel
theorem dX9_swap_11 : decode cX9_swap 11 = .ok (.ifCond .eq 8, 3) := by decide +kernel
theorem dX9_swap_14 : decode cX9_swap 14 = .ok (.iload_n 1, 1) := by decide +kernel
theorem dX9_swap_15 : decode cX9_swap 15 = .ok (.iload_n 2, 1) := by decide +kernel
theorem dX9_swap_16 : decode cX9_swap 16 = .ok (.if_icmp .ne 5, 3) := by decide +kernel
theorem dX9_swap_19 : decode cX9_swap 19 = .ok (.iconst (-1), 1) := by decide +kernel
theorem dX9_swap_20 : decode cX9_swap 20 = .ok (.ireturn, 1) := by decide +kernel
theorem dX9_swap_21 : decode cX9_swap 21 = .ok (.aload_n 0, 1) := by decide +kernel
theorem dX9_swap_22 : decode cX9_swap 22 = .ok (.iload_n 1, 1) := by decide +kernel
theorem dX9_swap_23 : decode cX9_swap 23 = .ok (.iload_n 2, 1) := by decide +kernel
theorem dX9_swap_24 : decode cX9_swap 24 = .ok (.invokevirtual 93, 3) := by decide +kernel
theorem dX9_swap_27 : decode cX9_swap 27 = .ok (.aload_n 0, 1) := by decide +kernel
theorem dX9_swap_28 : decode cX9_swap 28 = .ok (.getfield 16, 3) := by decide +kernel
theorem dX9_swap_31 : decode cX9_swap 31 = .ok (.iload_n 1, 1) := by decide +kernel
theorem dX9_swap_32 : decode cX9_swap 32 = .ok (.iaload, 1) := by decide +kernel
theorem dX9_swap_33 : decode cX9_swap 33 = .ok (.ireturn, 1) := by decide +kernel
set_option maxRecDepth 20000 in
theorem ggX9_say_X9_in : GoodIn wsX9_say wsX9_in := goodIn_r _ [8] rfl (by decide +kernel)
set_option maxRecDepth 20000 in
theorem gX9_say_X9_in : GoodIn wsX9_say (va_wsS RX9 71 yX9_in wsX9_in) := goodIn_app (goodIn_r _ [5, 6, 7] rfl (by decide +kernel)) ggX9_say_X9_in
theorem dX9_say_0 : decode cX9_say 0 = .ok (.iload_n 1, 1) := by decide +kernel
theorem dX9_say_1 : decode cX9_say 1 = .ok (.i2l, 1) := by decide +kernel
theorem dX9_say_2 : decode cX9_say 2 = .ok (.ldc2_w 97, 3) := by decide +kernel
theorem dX9_say_5 : decode cX9_say 5 = .ok (.ldc2_w 99, 3) := by decide +kernel
theorem dX9_say_8 : decode cX9_say 8 = .ok (.invokestatic 71, 3) := by decide +kernel
theorem dX9_say_11 : decode cX9_say 11 = .ok (.ifCond .ne 6, 3) := by decide +kernel
theorem dX9_say_14 : decode cX9_say 14 = .ok (.bipush (-2), 2) := by decide +kernel
theorem dX9_say_16 : decode cX9_say 16 = .ok (.ireturn, 1) := by decide +kernel
theorem dX9_say_17 : decode cX9_say 17 = .ok (.aload_n 0, 1) := by decide +kernel
theorem dX9_say_18 : decode cX9_say 18 = .ok (.getfield 101, 3) := by decide +kernel
theorem dX9_say_21 : decode cX9_say 21 = .ok (.bipush 60, 2) := by decide +kernel
theorem dX9_say_23 : decode cX9_say 23 = .ok (.if_icmp .ne 6, 3) := by decide +kernel
theorem dX9_say_26 : decode cX9_say 26 = .ok (.bipush (-4), 2) := by decide +kernel
theorem dX9_say_28 : decode cX9_say 28 = .ok (.ireturn, 1) := by decide +kernel
theorem dX9_say_29 : decode cX9_say 29 = .ok (.aload_n 0, 1) := by decide +kernel
theorem dX9_say_30 : decode cX9_say 30 = .ok (.getfield 25, 3) := by decide +kernel
theorem dX9_say_33 : decode cX9_say 33 = .ok (.aload_n 0, 1) := by decide +kernel
theorem dX9_say_34 : decode cX9_say 34 = .ok (.getfield 101, 3) := by decide +kernel
theorem dX9_say_37 : decode cX9_say 37 = .ok (.iload_n 1, 1) := by decide +kernel
theorem dX9_say_38 : decode cX9_say 38 = .ok (.iastore, 1) := by decide +kernel
theorem dX9_say_39 : decode cX9_say 39 = .ok (.aload_n 0, 1) := by decide +kernel
theorem dX9_say_40 : decode cX9_say 40 = .ok (.dup, 1) := by decide +kernel
theorem dX9_say_41 : decode cX9_say 41 = .ok (.getfield 101, 3) := by decide +kernel
theorem dX9_say_44 : decode cX9_say 44 = .ok (.iconst 1, 1) := by decide +kernel
theorem dX9_say_45 : decode cX9_say 45 = .ok (.iadd, 1) := by decide +kernel
theorem dX9_say_46 : decode cX9_say 46 = .ok (.putfield 101, 3) := by decide +kernel
theorem dX9_say_49 : decode cX9_say 49 = .ok (.aload_n 0, 1) := by decide +kernel
theorem dX9_say_50 : decode cX9_say 50 = .ok (.getfield 101, 3) := by decide +kernel
theorem dX9_say_53 : decode cX9_say 53 = .ok (.ireturn, 1) := by decide +kernel
theorem dX9_wipe_0 : decode cX9_wipe 0 = .ok (.aload_n 0, 1) := by decide +kernel
theorem dX9_wipe_1 : decode cX9_wipe 1 = .ok (.getfield 101, 3) := by decide +kernel
theorem dX9_wipe_4 : decode cX9_wipe 4 = .ok (.istore_n 1, 1) := by decide +kernel
theorem dX9_wipe_5 : decode cX9_wipe 5 = .ok (.aload_n 0, 1) := by decide +kernel
theorem dX9_wipe_6 : decode cX9_wipe 6 = .ok (.iconst 0, 1) := by decide +kernel
theorem dX9_wipe_7 : decode cX9_wipe 7 = .ok (.putfield 101, 3) := by decide +kernel
theorem dX9_wipe_10 : decode cX9_wipe 10 = .ok (.iload_n 1, 1) := by decide +kernel
theorem dX9_wipe_11 : decode cX9_wipe 11 = .ok (.ireturn, 1) := by decide +kernel
theorem dX9_close_0 : decode cX9_close 0 = .ok (.aload_n 0, 1) := by decide +kernel
theorem dX9_close_1 : decode cX9_close 1 = .ok (.getfield 28, 3) := by decide +kernel
theorem dX9_close_4 : decode cX9_close 4 = .ok (.aload_n 0, 1) := by decide +kernel
theorem dX9_close_5 : decode cX9_close 5 = .ok (.getfield 104, 3) := by decide +kernel
theorem dX9_close_8 : decode cX9_close 8 = .ok (.iload_n 1, 1) := by decide +kernel
theorem dX9_close_9 : decode cX9_close 9 = .ok (.iastore, 1) := by decide +kernel
theorem dX9_close_10 : decode cX9_close 10 = .ok (.aload_n 0, 1) := by decide +kernel
theorem dX9_close_11 : decode cX9_close 11 = .ok (.getfield 34, 3) := by decide +kernel
theorem dX9_close_14 : decode cX9_close 14 = .ok (.aload_n 0, 1) := by decide +kernel
theorem dX9_close_15 : decode cX9_close 15 = .ok (.getfield 104, 3) := by decide +kernel
theorem dX9_close_18 : decode cX9_close 18 = .ok (.iload_n 2, 1) := by decide +kernel
theorem dX9_close_19 : decode cX9_close 19 = .ok (.iastore, 1) := by decide +kernel
theorem dX9_close_20 : decode cX9_close 20 = .ok (.aload_n 0, 1) := by decide +kernel
theorem dX9_close_21 : decode cX9_close 21 = .ok (.dup, 1) := by decide +kernel
theorem dX9_close_22 : decode cX9_close 22 = .ok (.getfield 104, 3) := by decide +kernel
theorem dX9_close_25 : decode cX9_close 25 = .ok (.iconst 1, 1) := by decide +kernel
theorem dX9_close_26 : decode cX9_close 26 = .ok (.iadd, 1) := by decide +kernel
theorem dX9_close_27 : decode cX9_close 27 = .ok (.putfield 104, 3) := by decide +kernel
theorem dX9_close_30 : decode cX9_close 30 = .ok (.iconst 0, 1) := by decide +kernel
theorem dX9_close_31 : decode cX9_close 31 = .ok (.ireturn, 1) := by decide +kernel
set_option maxRecDepth 20000 in
theorem ggX9_isLetter_X9_in : GoodIn wsX9_isLetter wsX9_in := goodIn_r _ [6] rfl (by decide +kernel)
set_option maxRecDepth 20000 in
theorem gX9_isLetter_X9_in : GoodIn wsX9_isLetter (va_wsS RX9 71 yX9_in wsX9_in) := goodIn_app (goodIn_r _ [3, 4, 5] rfl (by decide +kernel)) ggX9_isLetter_X9_in
theorem dX9_isLetter_0 : decode cX9_isLetter 0 = .ok (.iload_n 0, 1) := by decide +kernel
theorem dX9_isLetter_1 : decode cX9_isLetter 1 = .ok (.i2l, 1) := by decide +kernel
theorem dX9_isLetter_2 : decode cX9_isLetter 2 = .ok (.ldc2_w 107, 3) := by decide +kernel
theorem dX9_isLetter_5 : decode cX9_isLetter 5 = .ok (.ldc2_w 109, 3) := by decide +kernel
theorem dX9_isLetter_8 : decode cX9_isLetter 8 = .ok (.invokestatic 71, 3) := by decide +kernel
theorem dX9_isLetter_11 : decode cX9_isLetter 11 = .ok (.ireturn, 1) := by decide +kernel
set_option maxRecDepth 20000 in
theorem ggX9_begin_X9_isLetter : GoodIn wsX9_begin wsX9_isLetter := goodIn_r _ [6, 7, 8, 9, 10, 5, 11] rfl (by decide +kernel)
set_option maxRecDepth 20000 in
theorem gX9_begin_X9_isLetter : GoodIn wsX9_begin (va_wsS RX9 111 yX9_isLetter wsX9_isLetter) := goodIn_app (goodIn_r _ [3, 4, 5] rfl (by decide +kernel)) ggX9_begin_X9_isLetter
set_option maxRecDepth 20000 in
theorem ggX9_begin_X9_close : GoodIn wsX9_begin wsX9_close := goodIn_r _ [15, 16, 2, 17, 18, 19, 20, 21, 22, 23, 24, 25, 26, 27, 28, 29, 30, 31, 32, 33, 34, 35, 36, 37, 38, 39, 40, 41, 42, 43, 44, 45, 46, 47] rfl (by decide +kernel)
set_option maxRecDepth 20000 in
theorem gX9_begin_X9_close : GoodIn wsX9_begin (wsV RX9 114 RX9 yX9_close wsX9_close) := goodIn_app (goodIn_r _ [12, 13, 14, 5] rfl (by decide +kernel)) ggX9_begin_X9_close
theorem dX9_begin_0 : decode cX9_begin 0 = .ok (.aload_n 0, 1) := by decide +kernel
theorem dX9_begin_1 : decode cX9_begin 1 = .ok (.getfield 31, 3) := by decide +kernel
theorem dX9_begin_4 : decode cX9_begin 4 = .ok (.aload_n 0, 1) := by decide +kernel
theorem dX9_begin_5 : decode cX9_begin 5 = .ok (.getfield 104, 3) := by decide +kernel
theorem dX9_begin_8 : decode cX9_begin 8 = .ok (.iload_n 1, 1) := by decide +kernel
theorem dX9_begin_9 : decode cX9_begin 9 = .ok (.invokestatic 111, 3) := by decide +kernel
theorem dX9_begin_12 : decode cX9_begin 12 = .ok (.ifCond .eq 10, 3) := by decide +kernel
theorem dX9_begin_15 : decode cX9_begin 15 = .ok (.iload_n 1, 1) := by decide +kernel
theorem dX9_begin_16 : decode cX9_begin 16 = .ok (.bipush 65, 2) := by decide +kernel
theorem dX9_begin_18 : decode cX9_begin 18 = .ok (.isub, 1) := by decide +kernel
theorem dX9_begin_19 : decode cX9_begin 19 = .ok (.goto 4, 3) := by decide +kernel
theorem dX9_begin_22 : decode cX9_begin 22 = .ok (.iconst 0, 1) := by decide +kernel
theorem dX9_begin_23 : decode cX9_begin 23 = .ok (.iastore, 1) := by decide +kernel
theorem dX9_begin_24 : decode cX9_begin 24 = .ok (.iload_n 1, 1) := by decide +kernel
theorem dX9_begin_25 : decode cX9_begin 25 = .ok (.invokestatic 111, 3) := by decide +kernel
theorem dX9_begin_28 : decode cX9_begin 28 = .ok (.ifCond .eq 7, 3) := by decide +kernel
theorem dX9_begin_31 : decode cX9_begin 31 = .ok (.iconst 1, 1) := by decide +kernel
theorem dX9_begin_32 : decode cX9_begin 32 = .ok (.goto 21, 3) := by decide +kernel
theorem dX9_begin_35 : decode cX9_begin 35 = .ok (.iload_n 1, 1) := by decide +kernel
theorem dX9_begin_36 : decode cX9_begin 36 = .ok (.bipush 46, 2) := by decide +kernel
theorem dX9_begin_38 : decode cX9_begin 38 = .ok (.if_icmp .ne 13, 3) := by decide +kernel
theorem dX9_begin_41 : decode cX9_begin 41 = .ok (.aload_n 0, 1) := by decide +kernel
theorem dX9_begin_42 : decode cX9_begin 42 = .ok (.bipush 6, 2) := by decide +kernel
theorem dX9_begin_44 : decode cX9_begin 44 = .ok (.iconst 0, 1) := by decide +kernel
theorem dX9_begin_45 : decode cX9_begin 45 = .ok (.invokevirtual 114, 3) := by decide +kernel
theorem dX9_begin_48 : decode cX9_begin 48 = .ok (.goto 5, 3) := by decide +kernel
theorem dX9_begin_51 : decode cX9_begin 51 = .ok (.bipush (-6), 2) := by decide +kernel
theorem dX9_begin_53 : decode cX9_begin 53 = .ok (.ireturn, 1) := by decide +kernel
set_option maxRecDepth 20000 in
theorem ggX9_deed_X9_close : GoodIn wsX9_deed wsX9_close := goodIn_r _ [7, 8, 9, 10, 14, 15, 16, 17, 18, 19, 20, 21, 22, 23, 24, 25, 26, 27, 28, 29, 30, 31, 32, 33, 34, 35, 36, 37, 38, 39, 40, 41, 42, 43] rfl (by decide +kernel)
set_option maxRecDepth 20000 in
theorem gX9_deed_X9_close : GoodIn wsX9_deed (wsV RX9 114 RX9 yX9_close wsX9_close) := goodIn_app (goodIn_r _ [3, 4, 5, 6] rfl (by decide +kernel)) ggX9_deed_X9_close
set_option maxRecDepth 20000 in
theorem ggX9_deed_X9_in : GoodIn wsX9_deed wsX9_in := goodIn_r _ [13] rfl (by decide +kernel)
set_option maxRecDepth 20000 in
theorem gX9_deed_X9_in : GoodIn wsX9_deed (va_wsS RX9 71 yX9_in wsX9_in) := goodIn_app (goodIn_r _ [11, 12, 6] rfl (by decide +kernel)) ggX9_deed_X9_in
theorem dX9_deed_0 : decode cX9_deed 0 = .ok (.iload_n 1, 1) := by decide +kernel
theorem dX9_deed_1 : decode cX9_deed 1 = .ok (.lookupswitch 71 #[(36, 58), (38, 67), (42, 65), (43, 51), (61, 69)], 51) := by decide +kernel
theorem dX9_deed_52 : decode cX9_deed 52 = .ok (.aload_n 0, 1) := by decide +kernel
theorem dX9_deed_53 : decode cX9_deed 53 = .ok (.iconst 1, 1) := by decide +kernel
theorem dX9_deed_54 : decode cX9_deed 54 = .ok (.iconst 0, 1) := by decide +kernel
theorem dX9_deed_55 : decode cX9_deed 55 = .ok (.invokevirtual 114, 3) := by decide +kernel
theorem dX9_deed_58 : decode cX9_deed 58 = .ok (.ireturn, 1) := by decide +kernel
theorem dX9_deed_59 : decode cX9_deed 59 = .ok (.aload_n 0, 1) := by decide +kernel
theorem dX9_deed_60 : decode cX9_deed 60 = .ok (.iconst 5, 1) := by decide +kernel
theorem dX9_deed_61 : decode cX9_deed 61 = .ok (.iconst 0, 1) := by decide +kernel
theorem dX9_deed_62 : decode cX9_deed 62 = .ok (.invokevirtual 114, 3) := by decide +kernel
theorem dX9_deed_65 : decode cX9_deed 65 = .ok (.ireturn, 1) := by decide +kernel
theorem dX9_deed_66 : decode cX9_deed 66 = .ok (.iconst 2, 1) := by decide +kernel
theorem dX9_deed_67 : decode cX9_deed 67 = .ok (.ireturn, 1) := by decide +kernel
theorem dX9_deed_68 : decode cX9_deed 68 = .ok (.iconst 3, 1) := by decide +kernel
theorem dX9_deed_69 : decode cX9_deed 69 = .ok (.ireturn, 1) := by decide +kernel
theorem dX9_deed_70 : decode cX9_deed 70 = .ok (.iconst 4, 1) := by decide +kernel
theorem dX9_deed_71 : decode cX9_deed 71 = .ok (.ireturn, 1) := by decide +kernel
theorem dX9_deed_72 : decode cX9_deed 72 = .ok (.iload_n 1, 1) := by decide +kernel
theorem dX9_deed_73 : decode cX9_deed 73 = .ok (.i2l, 1) := by decide +kernel
theorem dX9_deed_74 : decode cX9_deed 74 = .ok (.ldc2_w 118, 3) := by decide +kernel
theorem dX9_deed_77 : decode cX9_deed 77 = .ok (.ldc2_w 120, 3) := by decide +kernel
theorem dX9_deed_80 : decode cX9_deed 80 = .ok (.invokestatic 71, 3) := by decide +kernel
theorem dX9_deed_83 : decode cX9_deed 83 = .ok (.ifCond .eq 15, 3) := by decide +kernel
theorem dX9_deed_86 : decode cX9_deed 86 = .ok (.aload_n 0, 1) := by decide +kernel
theorem dX9_deed_87 : decode cX9_deed 87 = .ok (.iconst 0, 1) := by decide +kernel
theorem dX9_deed_88 : decode cX9_deed 88 = .ok (.iload_n 1, 1) := by decide +kernel
theorem dX9_deed_89 : decode cX9_deed 89 = .ok (.bipush 48, 2) := by decide +kernel
theorem dX9_deed_91 : decode cX9_deed 91 = .ok (.isub, 1) := by decide +kernel
theorem dX9_deed_92 : decode cX9_deed 92 = .ok (.invokevirtual 114, 3) := by decide +kernel
theorem dX9_deed_95 : decode cX9_deed 95 = .ok (.goto 5, 3) := by decide +kernel
theorem dX9_deed_98 : decode cX9_deed 98 = .ok (.bipush (-6), 2) := by decide +kernel
theorem dX9_deed_100 : decode cX9_deed 100 = .ok (.ireturn, 1) := by decide +kernel
set_option maxRecDepth 20000 in
theorem ggX9_readOn_X9_begin : GoodIn wsX9_readOn wsX9_begin := goodIn_r _ [7, 8, 9, 10, 11, 6, 12, 13, 14, 15, 16, 17, 18, 19, 20, 21, 22, 23, 30, 31, 32, 33, 34, 35, 36, 37, 38, 39, 40, 41, 42, 43, 44, 45, 46, 47, 48, 49, 50, 51, 52, 53, 54, 55, 56, 57, 58, 59] rfl (by decide +kernel)
set_option maxRecDepth 20000 in
theorem gX9_readOn_X9_begin : GoodIn wsX9_readOn (wsV RX9 122 RX9 yX9_begin wsX9_begin) := goodIn_app (goodIn_r _ [3, 4, 5, 6] rfl (by decide +kernel)) ggX9_readOn_X9_begin
set_option maxRecDepth 20000 in
theorem ggX9_readOn_X9_deed : GoodIn wsX9_readOn wsX9_deed := goodIn_r _ [27, 28, 29, 18, 19, 20, 6, 21, 22, 9, 23, 15, 16, 17, 30, 31, 32, 33, 34, 35, 36, 37, 38, 39, 40, 41, 42, 43, 44, 45, 46, 47, 48, 49, 50, 51, 52, 53, 54, 55, 56, 57, 58, 59] rfl (by decide +kernel)
set_option maxRecDepth 20000 in
theorem gX9_readOn_X9_deed : GoodIn wsX9_readOn (wsV RX9 125 RX9 yX9_deed wsX9_deed) := goodIn_app (goodIn_r _ [24, 25, 26, 6] rfl (by decide +kernel)) ggX9_readOn_X9_deed
set_option maxRecDepth 20000 in
theorem ggX9_readOn_X9_in : GoodIn wsX9_readOn wsX9_in := goodIn_r _ [17] rfl (by decide +kernel)
set_option maxRecDepth 20000 in
theorem gX9_readOn_X9_in : GoodIn wsX9_readOn (va_wsS RX9 71 yX9_in wsX9_in) := goodIn_app (goodIn_r _ [15, 16, 6] rfl (by decide +kernel)) ggX9_readOn_X9_in
set_option maxRecDepth 20000 in
theorem ggX9_readOn_X9_close : GoodIn wsX9_readOn wsX9_close := goodIn_r _ [21, 22, 9, 23, 30, 31, 32, 33, 34, 35, 36, 37, 38, 39, 40, 41, 42, 43, 44, 45, 46, 47, 48, 49, 50, 51, 52, 53, 54, 55, 56, 57, 58, 59] rfl (by decide +kernel)
set_option maxRecDepth 20000 in
theorem gX9_readOn_X9_close : GoodIn wsX9_readOn (wsV RX9 114 RX9 yX9_close wsX9_close) := goodIn_app (goodIn_r _ [18, 19, 20, 6] rfl (by decide +kernel)) ggX9_readOn_X9_close
set_option maxRecDepth 20000 in
theorem ggX9_readOn_X9_isLetter : GoodIn wsX9_readOn wsX9_isLetter := goodIn_r _ [12, 13, 14, 15, 16, 6, 17] rfl (by decide +kernel)
set_option maxRecDepth 20000 in
theorem gX9_readOn_X9_isLetter : GoodIn wsX9_readOn (va_wsS RX9 111 yX9_isLetter wsX9_isLetter) := goodIn_app (goodIn_r _ [10, 11, 6] rfl (by decide +kernel)) ggX9_readOn_X9_isLetter
theorem dX9_readOn_0 : decode cX9_readOn 0 = .ok (.iload_n 1, 1) := by decide +kernel
theorem dX9_readOn_1 : decode cX9_readOn 1 = .ok (.ifCond .ne 9, 3) := by decide +kernel
theorem dX9_readOn_4 : decode cX9_readOn 4 = .ok (.aload_n 0, 1) := by decide +kernel
theorem dX9_readOn_5 : decode cX9_readOn 5 = .ok (.iload_n 2, 1) := by decide +kernel
theorem dX9_readOn_6 : decode cX9_readOn 6 = .ok (.invokevirtual 122, 3) := by decide +kernel
theorem dX9_readOn_9 : decode cX9_readOn 9 = .ok (.ireturn, 1) := by decide +kernel
theorem dX9_readOn_10 : decode cX9_readOn 10 = .ok (.iload_n 1, 1) := by decide +kernel
theorem dX9_readOn_11 : decode cX9_readOn 11 = .ok (.iconst 1, 1) := by decide +kernel
theorem dX9_readOn_12 : decode cX9_readOn 12 = .ok (.if_icmp .ne 9, 3) := by decide +kernel
theorem dX9_readOn_15 : decode cX9_readOn 15 = .ok (.aload_n 0, 1) := by decide +kernel
theorem dX9_readOn_16 : decode cX9_readOn 16 = .ok (.iload_n 2, 1) := by decide +kernel
theorem dX9_readOn_17 : decode cX9_readOn 17 = .ok (.invokevirtual 125, 3) := by decide +kernel
theorem dX9_readOn_20 : decode cX9_readOn 20 = .ok (.ireturn, 1) := by decide +kernel
theorem dX9_readOn_21 : decode cX9_readOn 21 = .ok (.iload_n 1, 1) := by decide +kernel
theorem dX9_readOn_22 : decode cX9_readOn 22 = .ok (.iconst 2, 1) := by decide +kernel
theorem dX9_readOn_23 : decode cX9_readOn 23 = .ok (.if_icmp .ne 32, 3) := by decide +kernel
theorem dX9_readOn_26 : decode cX9_readOn 26 = .ok (.iload_n 2, 1) := by decide +kernel
theorem dX9_readOn_27 : decode cX9_readOn 27 = .ok (.i2l, 1) := by decide +kernel
theorem dX9_readOn_28 : decode cX9_readOn 28 = .ok (.ldc2_w 128, 3) := by decide +kernel
theorem dX9_readOn_31 : decode cX9_readOn 31 = .ok (.ldc2_w 130, 3) := by decide +kernel
theorem dX9_readOn_34 : decode cX9_readOn 34 = .ok (.invokestatic 71, 3) := by decide +kernel
theorem dX9_readOn_37 : decode cX9_readOn 37 = .ok (.ifCond .eq 15, 3) := by decide +kernel
theorem dX9_readOn_40 : decode cX9_readOn 40 = .ok (.aload_n 0, 1) := by decide +kernel
theorem dX9_readOn_41 : decode cX9_readOn 41 = .ok (.iconst 2, 1) := by decide +kernel
theorem dX9_readOn_42 : decode cX9_readOn 42 = .ok (.iload_n 2, 1) := by decide +kernel
theorem dX9_readOn_43 : decode cX9_readOn 43 = .ok (.bipush 48, 2) := by decide +kernel
theorem dX9_readOn_45 : decode cX9_readOn 45 = .ok (.isub, 1) := by decide +kernel
theorem dX9_readOn_46 : decode cX9_readOn 46 = .ok (.invokevirtual 114, 3) := by decide +kernel
theorem dX9_readOn_49 : decode cX9_readOn 49 = .ok (.goto 5, 3) := by decide +kernel
theorem dX9_readOn_52 : decode cX9_readOn 52 = .ok (.bipush (-6), 2) := by decide +kernel
theorem dX9_readOn_54 : decode cX9_readOn 54 = .ok (.ireturn, 1) := by decide +kernel
theorem dX9_readOn_55 : decode cX9_readOn 55 = .ok (.iload_n 2, 1) := by decide +kernel
theorem dX9_readOn_56 : decode cX9_readOn 56 = .ok (.invokestatic 111, 3) := by decide +kernel
theorem dX9_readOn_59 : decode cX9_readOn 59 = .ok (.ifCond .eq 24, 3) := by decide +kernel
theorem dX9_readOn_62 : decode cX9_readOn 62 = .ok (.aload_n 0, 1) := by decide +kernel
theorem dX9_readOn_63 : decode cX9_readOn 63 = .ok (.iload_n 1, 1) := by decide +kernel
theorem dX9_readOn_64 : decode cX9_readOn 64 = .ok (.iconst 3, 1) := by decide +kernel
theorem dX9_readOn_65 : decode cX9_readOn 65 = .ok (.if_icmp .ne 7, 3) := by decide +kernel
theorem dX9_readOn_68 : decode cX9_readOn 68 = .ok (.iconst 3, 1) := by decide +kernel
theorem dX9_readOn_69 : decode cX9_readOn 69 = .ok (.goto 4, 3) := by decide +kernel
theorem dX9_readOn_72 : decode cX9_readOn 72 = .ok (.iconst 4, 1) := by decide +kernel
theorem dX9_readOn_73 : decode cX9_readOn 73 = .ok (.iload_n 2, 1) := by decide +kernel
theorem dX9_readOn_74 : decode cX9_readOn 74 = .ok (.bipush 65, 2) := by decide +kernel
theorem dX9_readOn_76 : decode cX9_readOn 76 = .ok (.isub, 1) := by decide +kernel
theorem dX9_readOn_77 : decode cX9_readOn 77 = .ok (.invokevirtual 114, 3) := by decide +kernel
theorem dX9_readOn_80 : decode cX9_readOn 80 = .ok (.goto 5, 3) := by decide +kernel
theorem dX9_readOn_83 : decode cX9_readOn 83 = .ok (.bipush (-6), 2) := by decide +kernel
theorem dX9_readOn_85 : decode cX9_readOn 85 = .ok (.ireturn, 1) := by decide +kernel
set_option maxRecDepth 20000 in
theorem ggX9_fault_X9_readOn : GoodIn wsX9_fault wsX9_readOn := goodIn_r _ [8, 9, 10, 11, 12, 13, 7, 14, 15, 1, 16, 17, 18, 19, 20, 21, 22, 23, 24, 25, 26, 27, 28, 29, 30, 31, 32, 33, 34, 35, 36, 37, 38, 39, 40, 41, 42, 43, 44, 45, 46, 47, 48, 49, 50, 51, 52, 53, 54, 55, 56, 57, 58, 59, 60, 61, 62, 63, 64, 65] rfl (by decide +kernel)
set_option maxRecDepth 20000 in
theorem gX9_fault_X9_readOn : GoodIn wsX9_fault (wsV RX9 132 RX9 yX9_readOn wsX9_readOn) := goodIn_app (goodIn_r _ [4, 5, 6, 7] rfl (by decide +kernel)) ggX9_fault_X9_readOn
theorem dX9_fault_0 : decode cX9_fault 0 = .ok (.aload_n 0, 1) := by decide +kernel
theorem dX9_fault_1 : decode cX9_fault 1 = .ok (.iconst 0, 1) := by decide +kernel
theorem dX9_fault_2 : decode cX9_fault 2 = .ok (.putfield 104, 3) := by decide +kernel
theorem dX9_fault_5 : decode cX9_fault 5 = .ok (.iconst 0, 1) := by decide +kernel
theorem dX9_fault_6 : decode cX9_fault 6 = .ok (.istore_n 1, 1) := by decide +kernel
theorem dX9_fault_7 : decode cX9_fault 7 = .ok (.iconst 0, 1) := by decide +kernel
theorem dX9_fault_8 : decode cX9_fault 8 = .ok (.istore_n 2, 1) := by decide +kernel
theorem dX9_fault_9 : decode cX9_fault 9 = .ok (.iload_n 2, 1) := by decide +kernel
theorem dX9_fault_10 : decode cX9_fault 10 = .ok (.aload_n 0, 1) := by decide +kernel
theorem dX9_fault_11 : decode cX9_fault 11 = .ok (.getfield 101, 3) := by decide +kernel
theorem dX9_fault_14 : decode cX9_fault 14 = .ok (.if_icmp .ge 27, 3) := by decide +kernel
theorem dX9_fault_17 : decode cX9_fault 17 = .ok (.aload_n 0, 1) := by decide +kernel
theorem dX9_fault_18 : decode cX9_fault 18 = .ok (.iload_n 1, 1) := by decide +kernel
theorem dX9_fault_19 : decode cX9_fault 19 = .ok (.aload_n 0, 1) := by decide +kernel
theorem dX9_fault_20 : decode cX9_fault 20 = .ok (.getfield 25, 3) := by decide +kernel
theorem dX9_fault_23 : decode cX9_fault 23 = .ok (.iload_n 2, 1) := by decide +kernel
theorem dX9_fault_24 : decode cX9_fault 24 = .ok (.iaload, 1) := by decide +kernel
theorem dX9_fault_25 : decode cX9_fault 25 = .ok (.invokevirtual 132, 3) := by decide +kernel
theorem dX9_fault_28 : decode cX9_fault 28 = .ok (.istore_n 1, 1) := by decide +kernel
theorem dX9_fault_29 : decode cX9_fault 29 = .ok (.iload_n 1, 1) := by decide +kernel
theorem dX9_fault_30 : decode cX9_fault 30 = .ok (.ifCond .ge 5, 3) := by decide +kernel
theorem dX9_fault_33 : decode cX9_fault 33 = .ok (.iload_n 2, 1) := by decide +kernel
theorem dX9_fault_34 : decode cX9_fault 34 = .ok (.ireturn, 1) := by decide +kernel
theorem dX9_fault_35 : decode cX9_fault 35 = .ok (.iinc 2 1, 3) := by decide +kernel
theorem dX9_fault_38 : decode cX9_fault 38 = .ok (.goto (-29), 3) := by decide +kernel
theorem dX9_fault_41 : decode cX9_fault 41 = .ok (.iload_n 1, 1) := by decide +kernel
theorem dX9_fault_42 : decode cX9_fault 42 = .ok (.ifCond .ne 8, 3) := by decide +kernel
theorem dX9_fault_45 : decode cX9_fault 45 = .ok (.bipush (-6), 2) := by decide +kernel
theorem dX9_fault_47 : decode cX9_fault 47 = .ok (.goto 7, 3) := by decide +kernel
theorem dX9_fault_50 : decode cX9_fault 50 = .ok (.aload_n 0, 1) := by decide +kernel
theorem dX9_fault_51 : decode cX9_fault 51 = .ok (.getfield 101, 3) := by decide +kernel
theorem dX9_fault_54 : decode cX9_fault 54 = .ok (.ireturn, 1) := by decide +kernel
set_option maxRecDepth 20000 in
theorem ggX9_whyNot_X9_has : GoodIn wsX9_whyNot wsX9_has := goodIn_r _ [8] rfl (by decide +kernel)
set_option maxRecDepth 20000 in
theorem gX9_whyNot_X9_has : GoodIn wsX9_whyNot (va_wsS RX9 87 yX9_has wsX9_has) := goodIn_app (goodIn_r _ [5, 6, 7] rfl (by decide +kernel)) ggX9_whyNot_X9_has
theorem dX9_whyNot_0 : decode cX9_whyNot 0 = .ok (.iload_n 1, 1) := by decide +kernel
theorem dX9_whyNot_1 : decode cX9_whyNot 1 = .ok (.bipush 6, 2) := by decide +kernel
theorem dX9_whyNot_3 : decode cX9_whyNot 3 = .ok (.if_icmp .ne 19, 3) := by decide +kernel
theorem dX9_whyNot_6 : decode cX9_whyNot 6 = .ok (.aload_n 0, 1) := by decide +kernel
theorem dX9_whyNot_7 : decode cX9_whyNot 7 = .ok (.getfield 135, 3) := by decide +kernel
theorem dX9_whyNot_10 : decode cX9_whyNot 10 = .ok (.bipush 99, 2) := by decide +kernel
theorem dX9_whyNot_12 : decode cX9_whyNot 12 = .ok (.if_icmp .ne 8, 3) := by decide +kernel
theorem dX9_whyNot_15 : decode cX9_whyNot 15 = .ok (.bipush 6, 2) := by decide +kernel
theorem dX9_whyNot_17 : decode cX9_whyNot 17 = .ok (.goto 4, 3) := by decide +kernel
theorem dX9_whyNot_20 : decode cX9_whyNot 20 = .ok (.iconst 0, 1) := by decide +kernel
theorem dX9_whyNot_21 : decode cX9_whyNot 21 = .ok (.ireturn, 1) := by decide +kernel
theorem dX9_whyNot_22 : decode cX9_whyNot 22 = .ok (.iload_n 1, 1) := by decide +kernel
theorem dX9_whyNot_23 : decode cX9_whyNot 23 = .ok (.iconst 3, 1) := by decide +kernel
theorem dX9_whyNot_24 : decode cX9_whyNot 24 = .ok (.if_icmp .eq 8, 3) := by decide +kernel
theorem dX9_whyNot_27 : decode cX9_whyNot 27 = .ok (.iload_n 1, 1) := by decide +kernel
theorem dX9_whyNot_28 : decode cX9_whyNot 28 = .ok (.iconst 4, 1) := by decide +kernel
theorem dX9_whyNot_29 : decode cX9_whyNot 29 = .ok (.if_icmp .ne 7, 3) := by decide +kernel
theorem dX9_whyNot_32 : decode cX9_whyNot 32 = .ok (.iconst 1, 1) := by decide +kernel
theorem dX9_whyNot_33 : decode cX9_whyNot 33 = .ok (.goto 4, 3) := by decide +kernel
theorem dX9_whyNot_36 : decode cX9_whyNot 36 = .ok (.iconst 0, 1) := by decide +kernel
theorem dX9_whyNot_37 : decode cX9_whyNot 37 = .ok (.istore 4, 2) := by decide +kernel
theorem dX9_whyNot_39 : decode cX9_whyNot 39 = .ok (.aload_n 0, 1) := by decide +kernel
theorem dX9_whyNot_40 : decode cX9_whyNot 40 = .ok (.getfield 62, 3) := by decide +kernel
theorem dX9_whyNot_43 : decode cX9_whyNot 43 = .ok (.iload_n 2, 1) := by decide +kernel
theorem dX9_whyNot_44 : decode cX9_whyNot 44 = .ok (.invokestatic 87, 3) := by decide +kernel
theorem dX9_whyNot_47 : decode cX9_whyNot 47 = .ok (.ifCond .eq 19, 3) := by decide +kernel
theorem dX9_whyNot_50 : decode cX9_whyNot 50 = .ok (.iload 4, 2) := by decide +kernel
theorem dX9_whyNot_52 : decode cX9_whyNot 52 = .ok (.ifCond .eq 16, 3) := by decide +kernel
theorem dX9_whyNot_55 : decode cX9_whyNot 55 = .ok (.aload_n 0, 1) := by decide +kernel
theorem dX9_whyNot_56 : decode cX9_whyNot 56 = .ok (.getfield 62, 3) := by decide +kernel
theorem dX9_whyNot_59 : decode cX9_whyNot 59 = .ok (.iload_n 3, 1) := by decide +kernel
theorem dX9_whyNot_60 : decode cX9_whyNot 60 = .ok (.invokestatic 87, 3) := by decide +kernel
theorem dX9_whyNot_63 : decode cX9_whyNot 63 = .ok (.ifCond .ne 5, 3) := by decide +kernel
theorem dX9_whyNot_66 : decode cX9_whyNot 66 = .ok (.iconst 1, 1) := by decide +kernel
theorem dX9_whyNot_67 : decode cX9_whyNot 67 = .ok (.ireturn, 1) := by decide +kernel
theorem dX9_whyNot_68 : decode cX9_whyNot 68 = .ok (.iload_n 1, 1) := by decide +kernel
theorem dX9_whyNot_69 : decode cX9_whyNot 69 = .ok (.lookupswitch 72 #[(1, 27), (5, 56)], 27) := by decide +kernel
theorem dX9_whyNot_96 : decode cX9_whyNot 96 = .ok (.aload_n 0, 1) := by decide +kernel
theorem dX9_whyNot_97 : decode cX9_whyNot 97 = .ok (.getfield 66, 3) := by decide +kernel
theorem dX9_whyNot_100 : decode cX9_whyNot 100 = .ok (.iconst 5, 1) := by decide +kernel
theorem dX9_whyNot_101 : decode cX9_whyNot 101 = .ok (.if_icmp .ge 7, 3) := by decide +kernel
theorem dX9_whyNot_104 : decode cX9_whyNot 104 = .ok (.iconst 2, 1) := by decide +kernel
theorem dX9_whyNot_105 : decode cX9_whyNot 105 = .ok (.goto 19, 3) := by decide +kernel
theorem dX9_whyNot_108 : decode cX9_whyNot 108 = .ok (.aload_n 0, 1) := by decide +kernel
theorem dX9_whyNot_109 : decode cX9_whyNot 109 = .ok (.getfield 7, 3) := by decide +kernel
theorem dX9_whyNot_112 : decode cX9_whyNot 112 = .ok (.iload_n 2, 1) := by decide +kernel
theorem dX9_whyNot_113 : decode cX9_whyNot 113 = .ok (.iaload, 1) := by decide +kernel
theorem dX9_whyNot_114 : decode cX9_whyNot 114 = .ok (.bipush 99, 2) := by decide +kernel
theorem dX9_whyNot_116 : decode cX9_whyNot 116 = .ok (.if_icmp .ne 7, 3) := by decide +kernel
theorem dX9_whyNot_119 : decode cX9_whyNot 119 = .ok (.iconst 3, 1) := by decide +kernel
theorem dX9_whyNot_120 : decode cX9_whyNot 120 = .ok (.goto 4, 3) := by decide +kernel
theorem dX9_whyNot_123 : decode cX9_whyNot 123 = .ok (.iconst 0, 1) := by decide +kernel
theorem dX9_whyNot_124 : decode cX9_whyNot 124 = .ok (.ireturn, 1) := by decide +kernel
theorem dX9_whyNot_125 : decode cX9_whyNot 125 = .ok (.aload_n 0, 1) := by decide +kernel
theorem dX9_whyNot_126 : decode cX9_whyNot 126 = .ok (.getfield 62, 3) := by decide +kernel
theorem dX9_whyNot_129 : decode cX9_whyNot 129 = .ok (.iconst 1, 1) := by decide +kernel
theorem dX9_whyNot_130 : decode cX9_whyNot 130 = .ok (.iload_n 2, 1) := by decide +kernel
theorem dX9_whyNot_131 : decode cX9_whyNot 131 = .ok (.ishl, 1) := by decide +kernel
theorem dX9_whyNot_132 : decode cX9_whyNot 132 = .ok (.if_icmp .ne 7, 3) := by decide +kernel
theorem dX9_whyNot_135 : decode cX9_whyNot 135 = .ok (.iconst 5, 1) := by decide +kernel
theorem dX9_whyNot_136 : decode cX9_whyNot 136 = .ok (.goto 4, 3) := by decide +kernel
theorem dX9_whyNot_139 : decode cX9_whyNot 139 = .ok (.iconst 0, 1) := by decide +kernel
theorem dX9_whyNot_140 : decode cX9_whyNot 140 = .ok (.ireturn, 1) := by decide +kernel
theorem dX9_whyNot_141 : decode cX9_whyNot 141 = .ok (.iload 4, 2) := by decide +kernel
theorem dX9_whyNot_143 : decode cX9_whyNot 143 = .ok (.ifCond .eq 12, 3) := by decide +kernel
theorem dX9_whyNot_146 : decode cX9_whyNot 146 = .ok (.iload_n 2, 1) := by decide +kernel
theorem dX9_whyNot_147 : decode cX9_whyNot 147 = .ok (.iload_n 3, 1) := by decide +kernel
theorem dX9_whyNot_148 : decode cX9_whyNot 148 = .ok (.if_icmp .ne 7, 3) := by decide +kernel
theorem dX9_whyNot_151 : decode cX9_whyNot 151 = .ok (.iconst 4, 1) := by decide +kernel
theorem dX9_whyNot_152 : decode cX9_whyNot 152 = .ok (.goto 4, 3) := by decide +kernel
theorem dX9_whyNot_155 : decode cX9_whyNot 155 = .ok (.iconst 0, 1) := by decide +kernel
theorem dX9_whyNot_156 : decode cX9_whyNot 156 = .ok (.ireturn, 1) := by decide +kernel
theorem dX9_kneel_0 : decode cX9_kneel 0 = .ok (.aload_n 0, 1) := by decide +kernel
theorem dX9_kneel_1 : decode cX9_kneel 1 = .ok (.getfield 7, 3) := by decide +kernel
theorem dX9_kneel_4 : decode cX9_kneel 4 = .ok (.iload_n 1, 1) := by decide +kernel
theorem dX9_kneel_5 : decode cX9_kneel 5 = .ok (.dup2, 1) := by decide +kernel
theorem dX9_kneel_6 : decode cX9_kneel 6 = .ok (.iaload, 1) := by decide +kernel
theorem dX9_kneel_7 : decode cX9_kneel 7 = .ok (.iconst 3, 1) := by decide +kernel
theorem dX9_kneel_8 : decode cX9_kneel 8 = .ok (.iload_n 2, 1) := by decide +kernel
theorem dX9_kneel_9 : decode cX9_kneel 9 = .ok (.imul, 1) := by decide +kernel
theorem dX9_kneel_10 : decode cX9_kneel 10 = .ok (.isub, 1) := by decide +kernel
theorem dX9_kneel_11 : decode cX9_kneel 11 = .ok (.iastore, 1) := by decide +kernel
theorem dX9_kneel_12 : decode cX9_kneel 12 = .ok (.aload_n 0, 1) := by decide +kernel
theorem dX9_kneel_13 : decode cX9_kneel 13 = .ok (.getfield 7, 3) := by decide +kernel
theorem dX9_kneel_16 : decode cX9_kneel 16 = .ok (.iload_n 1, 1) := by decide +kernel
theorem dX9_kneel_17 : decode cX9_kneel 17 = .ok (.iaload, 1) := by decide +kernel
theorem dX9_kneel_18 : decode cX9_kneel 18 = .ok (.ifCond .gt 27, 3) := by decide +kernel
theorem dX9_kneel_21 : decode cX9_kneel 21 = .ok (.aload_n 0, 1) := by decide +kernel
theorem dX9_kneel_22 : decode cX9_kneel 22 = .ok (.dup, 1) := by decide +kernel
theorem dX9_kneel_23 : decode cX9_kneel 23 = .ok (.getfield 62, 3) := by decide +kernel
theorem dX9_kneel_26 : decode cX9_kneel 26 = .ok (.iconst 1, 1) := by decide +kernel
theorem dX9_kneel_27 : decode cX9_kneel 27 = .ok (.iload_n 1, 1) := by decide +kernel
theorem dX9_kneel_28 : decode cX9_kneel 28 = .ok (.ishl, 1) := by decide +kernel
theorem dX9_kneel_29 : decode cX9_kneel 29 = .ok (.iconst (-1), 1) := by decide +kernel
theorem dX9_kneel_30 : decode cX9_kneel 30 = .ok (.ixor, 1) := by decide +kernel
