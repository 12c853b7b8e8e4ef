theorem dX9_kneel_31 : decode cX9_kneel 31 = .ok (.iand, 1) := by decide +kernel
theorem dX9_kneel_32 : decode cX9_kneel 32 = .ok (.putfield 62, 3) := by decide +kernel
theorem dX9_kneel_35 : decode cX9_kneel 35 = .ok (.aload_n 0, 1) := by decide +kernel
theorem dX9_kneel_36 : decode cX9_kneel 36 = .ok (.dup, 1) := by decide +kernel
theorem dX9_kneel_37 : decode cX9_kneel 37 = .ok (.getfield 138, 3) := by decide +kernel
theorem dX9_kneel_40 : decode cX9_kneel 40 = .ok (.iconst 1, 1) := by decide +kernel
theorem dX9_kneel_41 : decode cX9_kneel 41 = .ok (.iadd, 1) := by decide +kernel
theorem dX9_kneel_42 : decode cX9_kneel 42 = .ok (.putfield 138, 3) := by decide +kernel
theorem dX9_kneel_45 : decode cX9_kneel 45 = .ok (.return_, 1) := by decide +kernel
set_option maxRecDepth 20000 in
theorem ggX9_stuff_X9_less : GoodIn wsX9_stuff wsX9_less := goodIn_r _ [6] rfl (by decide +kernel)
set_option maxRecDepth 20000 in
theorem gX9_stuff_X9_less : GoodIn wsX9_stuff (va_wsS RX9 141 yX9_less wsX9_less) := goodIn_app (goodIn_r _ [3, 4, 5] rfl (by decide +kernel)) ggX9_stuff_X9_less
theorem dX9_stuff_0 : decode cX9_stuff 0 = .ok (.aload_n 0, 1) := by decide +kernel
theorem dX9_stuff_1 : decode cX9_stuff 1 = .ok (.getfield 7, 3) := by decide +kernel
theorem dX9_stuff_4 : decode cX9_stuff 4 = .ok (.iload_n 1, 1) := by decide +kernel
theorem dX9_stuff_5 : decode cX9_stuff 5 = .ok (.bipush 99, 2) := by decide +kernel
theorem dX9_stuff_7 : decode cX9_stuff 7 = .ok (.aload_n 0, 1) := by decide +kernel
theorem dX9_stuff_8 : decode cX9_stuff 8 = .ok (.getfield 7, 3) := by decide +kernel
theorem dX9_stuff_11 : decode cX9_stuff 11 = .ok (.iload_n 1, 1) := by decide +kernel
theorem dX9_stuff_12 : decode cX9_stuff 12 = .ok (.iaload, 1) := by decide +kernel
theorem dX9_stuff_13 : decode cX9_stuff 13 = .ok (.bipush 20, 2) := by decide +kernel
theorem dX9_stuff_15 : decode cX9_stuff 15 = .ok (.iadd, 1) := by decide +kernel
theorem dX9_stuff_16 : decode cX9_stuff 16 = .ok (.invokestatic 141, 3) := by decide +kernel
theorem dX9_stuff_19 : decode cX9_stuff 19 = .ok (.iastore, 1) := by decide +kernel
theorem dX9_stuff_20 : decode cX9_stuff 20 = .ok (.aload_n 0, 1) := by decide +kernel
theorem dX9_stuff_21 : decode cX9_stuff 21 = .ok (.dup, 1) := by decide +kernel
theorem dX9_stuff_22 : decode cX9_stuff 22 = .ok (.getfield 66, 3) := by decide +kernel
theorem dX9_stuff_25 : decode cX9_stuff 25 = .ok (.iconst 5, 1) := by decide +kernel
theorem dX9_stuff_26 : decode cX9_stuff 26 = .ok (.isub, 1) := by decide +kernel
theorem dX9_stuff_27 : decode cX9_stuff 27 = .ok (.putfield 66, 3) := by decide +kernel
theorem dX9_stuff_30 : decode cX9_stuff 30 = .ok (.return_, 1) := by decide +kernel
set_option maxRecDepth 20000 in
theorem ggX9_unite_X9_less : GoodIn wsX9_unite wsX9_less := goodIn_r _ [7] rfl (by decide +kernel)
set_option maxRecDepth 20000 in
theorem gX9_unite_X9_less : GoodIn wsX9_unite (va_wsS RX9 141 yX9_less wsX9_less) := goodIn_app (goodIn_r _ [4, 5, 6] rfl (by decide +kernel)) ggX9_unite_X9_less
theorem dX9_unite_0 : decode cX9_unite 0 = .ok (.aload_n 0, 1) := by decide +kernel
theorem dX9_unite_1 : decode cX9_unite 1 = .ok (.getfield 7, 3) := by decide +kernel
theorem dX9_unite_4 : decode cX9_unite 4 = .ok (.iload_n 1, 1) := by decide +kernel
theorem dX9_unite_5 : decode cX9_unite 5 = .ok (.bipush 99, 2) := by decide +kernel
theorem dX9_unite_7 : decode cX9_unite 7 = .ok (.aload_n 0, 1) := by decide +kernel
theorem dX9_unite_8 : decode cX9_unite 8 = .ok (.getfield 7, 3) := by decide +kernel
theorem dX9_unite_11 : decode cX9_unite 11 = .ok (.iload_n 1, 1) := by decide +kernel
theorem dX9_unite_12 : decode cX9_unite 12 = .ok (.iaload, 1) := by decide +kernel
theorem dX9_unite_13 : decode cX9_unite 13 = .ok (.aload_n 0, 1) := by decide +kernel
theorem dX9_unite_14 : decode cX9_unite 14 = .ok (.getfield 7, 3) := by decide +kernel
theorem dX9_unite_17 : decode cX9_unite 17 = .ok (.iload_n 2, 1) := by decide +kernel
theorem dX9_unite_18 : decode cX9_unite 18 = .ok (.iaload, 1) := by decide +kernel
theorem dX9_unite_19 : decode cX9_unite 19 = .ok (.iadd, 1) := by decide +kernel
theorem dX9_unite_20 : decode cX9_unite 20 = .ok (.invokestatic 141, 3) := by decide +kernel
theorem dX9_unite_23 : decode cX9_unite 23 = .ok (.iastore, 1) := by decide +kernel
theorem dX9_unite_24 : decode cX9_unite 24 = .ok (.aload_n 0, 1) := by decide +kernel
theorem dX9_unite_25 : decode cX9_unite 25 = .ok (.getfield 13, 3) := by decide +kernel
theorem dX9_unite_28 : decode cX9_unite 28 = .ok (.iload_n 1, 1) := by decide +kernel
theorem dX9_unite_29 : decode cX9_unite 29 = .ok (.dup2, 1) := by decide +kernel
theorem dX9_unite_30 : decode cX9_unite 30 = .ok (.iaload, 1) := by decide +kernel
theorem dX9_unite_31 : decode cX9_unite 31 = .ok (.aload_n 0, 1) := by decide +kernel
theorem dX9_unite_32 : decode cX9_unite 32 = .ok (.getfield 13, 3) := by decide +kernel
theorem dX9_unite_35 : decode cX9_unite 35 = .ok (.iload_n 2, 1) := by decide +kernel
theorem dX9_unite_36 : decode cX9_unite 36 = .ok (.iaload, 1) := by decide +kernel
theorem dX9_unite_37 : decode cX9_unite 37 = .ok (.ior, 1) := by decide +kernel
theorem dX9_unite_38 : decode cX9_unite 38 = .ok (.iastore, 1) := by decide +kernel
theorem dX9_unite_39 : decode cX9_unite 39 = .ok (.aload_n 0, 1) := by decide +kernel
theorem dX9_unite_40 : decode cX9_unite 40 = .ok (.dup, 1) := by decide +kernel
theorem dX9_unite_41 : decode cX9_unite 41 = .ok (.getfield 62, 3) := by decide +kernel
theorem dX9_unite_44 : decode cX9_unite 44 = .ok (.iconst 1, 1) := by decide +kernel
theorem dX9_unite_45 : decode cX9_unite 45 = .ok (.iload_n 2, 1) := by decide +kernel
theorem dX9_unite_46 : decode cX9_unite 46 = .ok (.ishl, 1) := by decide +kernel
theorem dX9_unite_47 : decode cX9_unite 47 = .ok (.iconst (-1), 1) := by decide +kernel
theorem dX9_unite_48 : decode cX9_unite 48 = .ok (.ixor, 1) := by decide +kernel
theorem dX9_unite_49 : decode cX9_unite 49 = .ok (.iand, 1) := by decide +kernel
theorem dX9_unite_50 : decode cX9_unite 50 = .ok (.putfield 62, 3) := by decide +kernel
theorem dX9_unite_53 : decode cX9_unite 53 = .ok (.return_, 1) := by decide +kernel
set_option maxRecDepth 20000 in
theorem ggX9_sell_X9_less : GoodIn wsX9_sell wsX9_less := goodIn_r _ [6] rfl (by decide +kernel)
set_option maxRecDepth 20000 in
theorem gX9_sell_X9_less : GoodIn wsX9_sell (va_wsS RX9 141 yX9_less wsX9_less) := goodIn_app (goodIn_r _ [3, 4, 5] rfl (by decide +kernel)) ggX9_sell_X9_less
theorem dX9_sell_0 : decode cX9_sell 0 = .ok (.aload_n 0, 1) := by decide +kernel
theorem dX9_sell_1 : decode cX9_sell 1 = .ok (.dup, 1) := by decide +kernel
theorem dX9_sell_2 : decode cX9_sell 2 = .ok (.getfield 62, 3) := by decide +kernel
theorem dX9_sell_5 : decode cX9_sell 5 = .ok (.iconst 1, 1) := by decide +kernel
theorem dX9_sell_6 : decode cX9_sell 6 = .ok (.iload_n 1, 1) := by decide +kernel
theorem dX9_sell_7 : decode cX9_sell 7 = .ok (.ishl, 1) := by decide +kernel
theorem dX9_sell_8 : decode cX9_sell 8 = .ok (.iconst (-1), 1) := by decide +kernel
theorem dX9_sell_9 : decode cX9_sell 9 = .ok (.ixor, 1) := by decide +kernel
theorem dX9_sell_10 : decode cX9_sell 10 = .ok (.iand, 1) := by decide +kernel
theorem dX9_sell_11 : decode cX9_sell 11 = .ok (.putfield 62, 3) := by decide +kernel
theorem dX9_sell_14 : decode cX9_sell 14 = .ok (.aload_n 0, 1) := by decide +kernel
theorem dX9_sell_15 : decode cX9_sell 15 = .ok (.sipush 999, 3) := by decide +kernel
theorem dX9_sell_18 : decode cX9_sell 18 = .ok (.aload_n 0, 1) := by decide +kernel
theorem dX9_sell_19 : decode cX9_sell 19 = .ok (.getfield 66, 3) := by decide +kernel
theorem dX9_sell_22 : decode cX9_sell 22 = .ok (.bipush 10, 2) := by decide +kernel
theorem dX9_sell_24 : decode cX9_sell 24 = .ok (.iadd, 1) := by decide +kernel
theorem dX9_sell_25 : decode cX9_sell 25 = .ok (.invokestatic 141, 3) := by decide +kernel
theorem dX9_sell_28 : decode cX9_sell 28 = .ok (.putfield 66, 3) := by decide +kernel
theorem dX9_sell_31 : decode cX9_sell 31 = .ok (.return_, 1) := by decide +kernel
set_option maxRecDepth 20000 in
theorem ggX9_withoutHighest_X9_has : GoodIn wsX9_withoutHighest wsX9_has := goodIn_r _ [4] rfl (by decide +kernel)
set_option maxRecDepth 20000 in
theorem gX9_withoutHighest_X9_has : GoodIn wsX9_withoutHighest (va_wsS RX9 87 yX9_has wsX9_has) := goodIn_app (goodIn_r _ [1, 2, 3] rfl (by decide +kernel)) ggX9_withoutHighest_X9_has
theorem dX9_withoutHighest_0 : decode cX9_withoutHighest 0 = .ok (.iconst 0, 1) := by decide +kernel
theorem dX9_withoutHighest_1 : decode cX9_withoutHighest 1 = .ok (.istore_n 2, 1) := by decide +kernel
theorem dX9_withoutHighest_2 : decode cX9_withoutHighest 2 = .ok (.iconst 0, 1) := by decide +kernel
theorem dX9_withoutHighest_3 : decode cX9_withoutHighest 3 = .ok (.istore_n 3, 1) := by decide +kernel
theorem dX9_withoutHighest_4 : decode cX9_withoutHighest 4 = .ok (.iload_n 3, 1) := by decide +kernel
theorem dX9_withoutHighest_5 : decode cX9_withoutHighest 5 = .ok (.bipush 8, 2) := by decide +kernel
theorem dX9_withoutHighest_7 : decode cX9_withoutHighest 7 = .ok (.if_icmp .ge 25, 3) := by decide +kernel
theorem dX9_withoutHighest_10 : decode cX9_withoutHighest 10 = .ok (.iload_n 1, 1) := by decide +kernel
theorem dX9_withoutHighest_11 : decode cX9_withoutHighest 11 = .ok (.iload_n 3, 1) := by decide +kernel
theorem dX9_withoutHighest_12 : decode cX9_withoutHighest 12 = .ok (.invokestatic 87, 3) := by decide +kernel
theorem dX9_withoutHighest_15 : decode cX9_withoutHighest 15 = .ok (.ifCond .eq 9, 3) := by decide +kernel
theorem dX9_withoutHighest_18 : decode cX9_withoutHighest 18 = .ok (.iconst 1, 1) := by decide +kernel
theorem dX9_withoutHighest_19 : decode cX9_withoutHighest 19 = .ok (.iload_n 3, 1) := by decide +kernel
theorem dX9_withoutHighest_20 : decode cX9_withoutHighest 20 = .ok (.ishl, 1) := by decide +kernel
theorem dX9_withoutHighest_21 : decode cX9_withoutHighest 21 = .ok (.goto 4, 3) := by decide +kernel
theorem dX9_withoutHighest_24 : decode cX9_withoutHighest 24 = .ok (.iload_n 2, 1) := by decide +kernel
theorem dX9_withoutHighest_25 : decode cX9_withoutHighest 25 = .ok (.istore_n 2, 1) := by decide +kernel
theorem dX9_withoutHighest_26 : decode cX9_withoutHighest 26 = .ok (.iinc 3 1, 3) := by decide +kernel
theorem dX9_withoutHighest_29 : decode cX9_withoutHighest 29 = .ok (.goto (-25), 3) := by decide +kernel
theorem dX9_withoutHighest_32 : decode cX9_withoutHighest 32 = .ok (.iload_n 1, 1) := by decide +kernel
theorem dX9_withoutHighest_33 : decode cX9_withoutHighest 33 = .ok (.iload_n 2, 1) := by decide +kernel
theorem dX9_withoutHighest_34 : decode cX9_withoutHighest 34 = .ok (.iconst (-1), 1) := by decide +kernel
theorem dX9_withoutHighest_35 : decode cX9_withoutHighest 35 = .ok (.ixor, 1) := by decide +kernel
theorem dX9_withoutHighest_36 : decode cX9_withoutHighest 36 = .ok (.iand, 1) := by decide +kernel
theorem dX9_withoutHighest_37 : decode cX9_withoutHighest 37 = .ok (.ireturn, 1) := by decide +kernel
set_option maxRecDepth 20000 in
theorem ggX9_passOne_X9_withoutHighest : GoodIn wsX9_passOne wsX9_withoutHighest := goodIn_r _ [8, 9, 10, 7, 11] rfl (by decide +kernel)
set_option maxRecDepth 20000 in
theorem gX9_passOne_X9_withoutHighest : GoodIn wsX9_passOne (wsV RX9 144 RX9 yX9_withoutHighest wsX9_withoutHighest) := goodIn_app (goodIn_r _ [4, 5, 6, 7] rfl (by decide +kernel)) ggX9_passOne_X9_withoutHighest
set_option maxRecDepth 20000 in
theorem ggX9_passOne_X9_less : GoodIn wsX9_passOne wsX9_less := goodIn_r _ [14] rfl (by decide +kernel)
set_option maxRecDepth 20000 in
theorem gX9_passOne_X9_less : GoodIn wsX9_passOne (va_wsS RX9 141 yX9_less wsX9_less) := goodIn_app (goodIn_r _ [12, 13, 7] rfl (by decide +kernel)) ggX9_passOne_X9_less
theorem dX9_passOne_0 : decode cX9_passOne 0 = .ok (.aload_n 0, 1) := by decide +kernel
theorem dX9_passOne_1 : decode cX9_passOne 1 = .ok (.getfield 7, 3) := by decide +kernel
theorem dX9_passOne_4 : decode cX9_passOne 4 = .ok (.iload_n 1, 1) := by decide +kernel
theorem dX9_passOne_5 : decode cX9_passOne 5 = .ok (.iaload, 1) := by decide +kernel
theorem dX9_passOne_6 : decode cX9_passOne 6 = .ok (.bipush 20, 2) := by decide +kernel
theorem dX9_passOne_8 : decode cX9_passOne 8 = .ok (.if_icmp .ge 19, 3) := by decide +kernel
theorem dX9_passOne_11 : decode cX9_passOne 11 = .ok (.aload_n 0, 1) := by decide +kernel
theorem dX9_passOne_12 : decode cX9_passOne 12 = .ok (.getfield 13, 3) := by decide +kernel
theorem dX9_passOne_15 : decode cX9_passOne 15 = .ok (.iload_n 1, 1) := by decide +kernel
theorem dX9_passOne_16 : decode cX9_passOne 16 = .ok (.aload_n 0, 1) := by decide +kernel
theorem dX9_passOne_17 : decode cX9_passOne 17 = .ok (.aload_n 0, 1) := by decide +kernel
theorem dX9_passOne_18 : decode cX9_passOne 18 = .ok (.getfield 13, 3) := by decide +kernel
theorem dX9_passOne_21 : decode cX9_passOne 21 = .ok (.iload_n 1, 1) := by decide +kernel
theorem dX9_passOne_22 : decode cX9_passOne 22 = .ok (.iaload, 1) := by decide +kernel
theorem dX9_passOne_23 : decode cX9_passOne 23 = .ok (.invokevirtual 144, 3) := by decide +kernel
theorem dX9_passOne_26 : decode cX9_passOne 26 = .ok (.iastore, 1) := by decide +kernel
theorem dX9_passOne_27 : decode cX9_passOne 27 = .ok (.aload_n 0, 1) := by decide +kernel
theorem dX9_passOne_28 : decode cX9_passOne 28 = .ok (.getfield 7, 3) := by decide +kernel
theorem dX9_passOne_31 : decode cX9_passOne 31 = .ok (.iload_n 1, 1) := by decide +kernel
theorem dX9_passOne_32 : decode cX9_passOne 32 = .ok (.iaload, 1) := by decide +kernel
theorem dX9_passOne_33 : decode cX9_passOne 33 = .ok (.bipush 50, 2) := by decide +kernel
theorem dX9_passOne_35 : decode cX9_passOne 35 = .ok (.if_icmp .lt 29, 3) := by decide +kernel
theorem dX9_passOne_38 : decode cX9_passOne 38 = .ok (.aload_n 0, 1) := by decide +kernel
theorem dX9_passOne_39 : decode cX9_passOne 39 = .ok (.getfield 7, 3) := by decide +kernel
theorem dX9_passOne_42 : decode cX9_passOne 42 = .ok (.iload_n 1, 1) := by decide +kernel
theorem dX9_passOne_43 : decode cX9_passOne 43 = .ok (.dup2, 1) := by decide +kernel
theorem dX9_passOne_44 : decode cX9_passOne 44 = .ok (.iaload, 1) := by decide +kernel
theorem dX9_passOne_45 : decode cX9_passOne 45 = .ok (.iconst 1, 1) := by decide +kernel
theorem dX9_passOne_46 : decode cX9_passOne 46 = .ok (.isub, 1) := by decide +kernel
theorem dX9_passOne_47 : decode cX9_passOne 47 = .ok (.iastore, 1) := by decide +kernel
theorem dX9_passOne_48 : decode cX9_passOne 48 = .ok (.aload_n 0, 1) := by decide +kernel
theorem dX9_passOne_49 : decode cX9_passOne 49 = .ok (.sipush 999, 3) := by decide +kernel
theorem dX9_passOne_52 : decode cX9_passOne 52 = .ok (.aload_n 0, 1) := by decide +kernel
theorem dX9_passOne_53 : decode cX9_passOne 53 = .ok (.getfield 66, 3) := by decide +kernel
theorem dX9_passOne_56 : decode cX9_passOne 56 = .ok (.iconst 1, 1) := by decide +kernel
theorem dX9_passOne_57 : decode cX9_passOne 57 = .ok (.iadd, 1) := by decide +kernel
theorem dX9_passOne_58 : decode cX9_passOne 58 = .ok (.invokestatic 141, 3) := by decide +kernel
theorem dX9_passOne_61 : decode cX9_passOne 61 = .ok (.putfield 66, 3) := by decide +kernel
theorem dX9_passOne_64 : decode cX9_passOne 64 = .ok (.return_, 1) := by decide +kernel
set_option maxRecDepth 20000 in
theorem ggX9_passYear_X9_has : GoodIn wsX9_passYear wsX9_has := goodIn_r _ [6] rfl (by decide +kernel)
set_option maxRecDepth 20000 in
theorem gX9_passYear_X9_has : GoodIn wsX9_passYear (va_wsS RX9 87 yX9_has wsX9_has) := goodIn_app (goodIn_r _ [3, 4, 5] rfl (by decide +kernel)) ggX9_passYear_X9_has
set_option maxRecDepth 20000 in
theorem ggX9_passYear_X9_passOne : GoodIn wsX9_passYear wsX9_passOne := goodIn_r _ [10, 11, 12, 13, 14, 15, 16, 5, 17, 3, 4, 6, 18, 19, 20, 21, 22, 23, 24, 25, 26, 27, 28, 29, 30, 31, 32, 33, 34, 35, 36, 37, 38, 39, 40, 41, 42, 43, 44, 45, 46, 47, 48, 49, 50] rfl (by decide +kernel)
set_option maxRecDepth 20000 in
theorem gX9_passYear_X9_passOne : GoodIn wsX9_passYear (wsV RX9 147 RX9 yX9_passOne wsX9_passOne) := goodIn_app (goodIn_r _ [7, 8, 9, 5] rfl (by decide +kernel)) ggX9_passYear_X9_passOne
theorem dX9_passYear_0 : decode cX9_passYear 0 = .ok (.iconst 0, 1) := by decide +kernel
theorem dX9_passYear_1 : decode cX9_passYear 1 = .ok (.istore_n 1, 1) := by decide +kernel
theorem dX9_passYear_2 : decode cX9_passYear 2 = .ok (.iload_n 1, 1) := by decide +kernel
theorem dX9_passYear_3 : decode cX9_passYear 3 = .ok (.bipush 10, 2) := by decide +kernel
theorem dX9_passYear_5 : decode cX9_passYear 5 = .ok (.if_icmp .ge 25, 3) := by decide +kernel
theorem dX9_passYear_8 : decode cX9_passYear 8 = .ok (.aload_n 0, 1) := by decide +kernel
theorem dX9_passYear_9 : decode cX9_passYear 9 = .ok (.getfield 62, 3) := by decide +kernel
theorem dX9_passYear_12 : decode cX9_passYear 12 = .ok (.iload_n 1, 1) := by decide +kernel
theorem dX9_passYear_13 : decode cX9_passYear 13 = .ok (.invokestatic 87, 3) := by decide +kernel
theorem dX9_passYear_16 : decode cX9_passYear 16 = .ok (.ifCond .eq 8, 3) := by decide +kernel
theorem dX9_passYear_19 : decode cX9_passYear 19 = .ok (.aload_n 0, 1) := by decide +kernel
theorem dX9_passYear_20 : decode cX9_passYear 20 = .ok (.iload_n 1, 1) := by decide +kernel
theorem dX9_passYear_21 : decode cX9_passYear 21 = .ok (.invokevirtual 147, 3) := by decide +kernel
theorem dX9_passYear_24 : decode cX9_passYear 24 = .ok (.iinc 1 1, 3) := by decide +kernel
theorem dX9_passYear_27 : decode cX9_passYear 27 = .ok (.goto (-25), 3) := by decide +kernel
theorem dX9_passYear_30 : decode cX9_passYear 30 = .ok (.aload_n 0, 1) := by decide +kernel
theorem dX9_passYear_31 : decode cX9_passYear 31 = .ok (.dup, 1) := by decide +kernel
theorem dX9_passYear_32 : decode cX9_passYear 32 = .ok (.getfield 135, 3) := by decide +kernel
theorem dX9_passYear_35 : decode cX9_passYear 35 = .ok (.iconst 1, 1) := by decide +kernel
theorem dX9_passYear_36 : decode cX9_passYear 36 = .ok (.iadd, 1) := by decide +kernel
theorem dX9_passYear_37 : decode cX9_passYear 37 = .ok (.putfield 135, 3) := by decide +kernel
theorem dX9_passYear_40 : decode cX9_passYear 40 = .ok (.return_, 1) := by decide +kernel
set_option maxRecDepth 20000 in
theorem ggX9_happen_X9_kneel : GoodIn wsX9_happen wsX9_kneel := goodIn_r _ [6, 7, 8, 9, 47, 48, 49, 50, 51, 52, 53, 54, 55, 56, 57, 58, 59, 60, 61, 62, 63, 64, 65, 66, 67, 68, 69, 70, 71, 72, 73, 74, 75, 76] rfl (by decide +kernel)
set_option maxRecDepth 20000 in
theorem gX9_happen_X9_kneel : GoodIn wsX9_happen (wsV RX9 151 RX9 yX9_kneel wsX9_kneel) := goodIn_app (goodIn_r _ [2, 3, 4, 5] rfl (by decide +kernel)) ggX9_happen_X9_kneel
set_option maxRecDepth 20000 in
theorem ggX9_happen_X9_stuff : GoodIn wsX9_happen wsX9_stuff := goodIn_r _ [13, 7, 14, 15, 16, 5, 17, 47, 48, 49, 50, 51, 52, 53, 54, 55, 56, 57, 58, 59, 60, 61, 62, 63, 64, 65, 66, 67, 68, 69, 70, 71, 72, 73, 74, 75, 76] rfl (by decide +kernel)
set_option maxRecDepth 20000 in
theorem gX9_happen_X9_stuff : GoodIn wsX9_happen (wsV RX9 154 RX9 yX9_stuff wsX9_stuff) := goodIn_app (goodIn_r _ [10, 11, 12, 5] rfl (by decide +kernel)) ggX9_happen_X9_stuff
set_option maxRecDepth 20000 in
theorem ggX9_happen_X9_unite : GoodIn wsX9_happen wsX9_unite := goodIn_r _ [21, 7, 1, 8, 15, 16, 5, 17, 47, 48, 49, 50, 51, 52, 53, 54, 55, 56, 57, 58, 59, 60, 61, 62, 63, 64, 65, 66, 67, 68, 69, 70, 71, 72, 73, 74, 75, 76] rfl (by decide +kernel)
set_option maxRecDepth 20000 in
theorem gX9_happen_X9_unite : GoodIn wsX9_happen (wsV RX9 157 RX9 yX9_unite wsX9_unite) := goodIn_app (goodIn_r _ [18, 19, 20, 5] rfl (by decide +kernel)) ggX9_happen_X9_unite
set_option maxRecDepth 20000 in
theorem ggX9_happen_X9_change : GoodIn wsX9_happen wsX9_change := goodIn_r _ [25, 26, 47, 48, 49, 50, 51, 52, 53, 54, 55, 56, 57, 58, 59, 60, 61, 62, 63, 64, 65, 66, 67, 68, 69, 70, 71, 72, 73, 74, 75, 76] rfl (by decide +kernel)
set_option maxRecDepth 20000 in
theorem gX9_happen_X9_change : GoodIn wsX9_happen (wsV RX9 93 RX9 yX9_change wsX9_change) := goodIn_app (goodIn_r _ [22, 23, 24, 5] rfl (by decide +kernel)) ggX9_happen_X9_change
set_option maxRecDepth 20000 in
theorem ggX9_happen_X9_sell : GoodIn wsX9_happen wsX9_sell := goodIn_r _ [30, 8, 14, 15, 16, 5, 17, 47, 48, 49, 50, 51, 52, 53, 54, 55, 56, 57, 58, 59, 60, 61, 62, 63, 64, 65, 66, 67, 68, 69, 70, 71, 72, 73, 74, 75, 76] rfl (by decide +kernel)
set_option maxRecDepth 20000 in
theorem gX9_happen_X9_sell : GoodIn wsX9_happen (wsV RX9 160 RX9 yX9_sell wsX9_sell) := goodIn_app (goodIn_r _ [27, 28, 29, 5] rfl (by decide +kernel)) ggX9_happen_X9_sell
set_option maxRecDepth 20000 in
theorem ggX9_happen_X9_passYear : GoodIn wsX9_happen wsX9_passYear := goodIn_r _ [34, 8, 35, 36, 37, 5, 38, 39, 40, 41, 42, 7, 1, 14, 43, 44, 45, 46, 15, 16, 17, 47, 48, 49, 50, 51, 52, 53, 54, 55, 56, 57, 58, 59, 60, 61, 62, 63, 64, 65, 66, 67, 68, 69, 70, 71, 72, 73, 74, 75, 76] rfl (by decide +kernel)
set_option maxRecDepth 20000 in
theorem gX9_happen_X9_passYear : GoodIn wsX9_happen (wsV RX9 163 RX9 yX9_passYear wsX9_passYear) := goodIn_app (goodIn_r _ [31, 32, 33, 5] rfl (by decide +kernel)) ggX9_happen_X9_passYear
theorem dX9_happen_0 : decode cX9_happen 0 = .ok (.iload_n 1, 1) := by decide +kernel
theorem dX9_happen_1 : decode cX9_happen 1 = .ok (.tableswitch 97 0 5 #[39, 48, 56, 71, 80, 89], 39) := by decide +kernel
theorem dX9_happen_40 : decode cX9_happen 40 = .ok (.aload_n 0, 1) := by decide +kernel
theorem dX9_happen_41 : decode cX9_happen 41 = .ok (.iload_n 2, 1) := by decide +kernel
theorem dX9_happen_42 : decode cX9_happen 42 = .ok (.iload_n 3, 1) := by decide +kernel
theorem dX9_happen_43 : decode cX9_happen 43 = .ok (.invokevirtual 151, 3) := by decide +kernel
theorem dX9_happen_46 : decode cX9_happen 46 = .ok (.goto 56, 3) := by decide +kernel
theorem dX9_happen_49 : decode cX9_happen 49 = .ok (.aload_n 0, 1) := by decide +kernel
theorem dX9_happen_50 : decode cX9_happen 50 = .ok (.iload_n 2, 1) := by decide +kernel
theorem dX9_happen_51 : decode cX9_happen 51 = .ok (.invokevirtual 154, 3) := by decide +kernel
theorem dX9_happen_54 : decode cX9_happen 54 = .ok (.goto 48, 3) := by decide +kernel
theorem dX9_happen_57 : decode cX9_happen 57 = .ok (.aload_n 0, 1) := by decide +kernel
theorem dX9_happen_58 : decode cX9_happen 58 = .ok (.getfield 13, 3) := by decide +kernel
theorem dX9_happen_61 : decode cX9_happen 61 = .ok (.iload_n 2, 1) := by decide +kernel
theorem dX9_happen_62 : decode cX9_happen 62 = .ok (.dup2, 1) := by decide +kernel
theorem dX9_happen_63 : decode cX9_happen 63 = .ok (.iaload, 1) := by decide +kernel
theorem dX9_happen_64 : decode cX9_happen 64 = .ok (.iconst 1, 1) := by decide +kernel
theorem dX9_happen_65 : decode cX9_happen 65 = .ok (.iload_n 3, 1) := by decide +kernel
theorem dX9_happen_66 : decode cX9_happen 66 = .ok (.ishl, 1) := by decide +kernel
theorem dX9_happen_67 : decode cX9_happen 67 = .ok (.ixor, 1) := by decide +kernel
theorem dX9_happen_68 : decode cX9_happen 68 = .ok (.iastore, 1) := by decide +kernel
theorem dX9_happen_69 : decode cX9_happen 69 = .ok (.goto 33, 3) := by decide +kernel
theorem dX9_happen_72 : decode cX9_happen 72 = .ok (.aload_n 0, 1) := by decide +kernel
theorem dX9_happen_73 : decode cX9_happen 73 = .ok (.iload_n 2, 1) := by decide +kernel
theorem dX9_happen_74 : decode cX9_happen 74 = .ok (.iload_n 3, 1) := by decide +kernel
theorem dX9_happen_75 : decode cX9_happen 75 = .ok (.invokevirtual 157, 3) := by decide +kernel
theorem dX9_happen_78 : decode cX9_happen 78 = .ok (.goto 24, 3) := by decide +kernel
theorem dX9_happen_81 : decode cX9_happen 81 = .ok (.aload_n 0, 1) := by decide +kernel
theorem dX9_happen_82 : decode cX9_happen 82 = .ok (.iload_n 2, 1) := by decide +kernel
theorem dX9_happen_83 : decode cX9_happen 83 = .ok (.iload_n 3, 1) := by decide +kernel
theorem dX9_happen_84 : decode cX9_happen 84 = .ok (.invokevirtual 93, 3) := by decide +kernel
theorem dX9_happen_87 : decode cX9_happen 87 = .ok (.goto 15, 3) := by decide +kernel
theorem dX9_happen_90 : decode cX9_happen 90 = .ok (.aload_n 0, 1) := by decide +kernel
theorem dX9_happen_91 : decode cX9_happen 91 = .ok (.iload_n 2, 1) := by decide +kernel
theorem dX9_happen_92 : decode cX9_happen 92 = .ok (.invokevirtual 160, 3) := by decide +kernel
theorem dX9_happen_95 : decode cX9_happen 95 = .ok (.goto 7, 3) := by decide +kernel
theorem dX9_happen_98 : decode cX9_happen 98 = .ok (.aload_n 0, 1) := by decide +kernel
theorem dX9_happen_99 : decode cX9_happen 99 = .ok (.invokevirtual 163, 3) := by decide +kernel
theorem dX9_happen_102 : decode cX9_happen 102 = .ok (.return_, 1) := by decide +kernel
theorem dX9_keepNow_0 : decode cX9_keepNow 0 = .ok (.iconst 0, 1) := by decide +kernel
theorem dX9_keepNow_1 : decode cX9_keepNow 1 = .ok (.istore_n 1, 1) := by decide +kernel
theorem dX9_keepNow_2 : decode cX9_keepNow 2 = .ok (.iload_n 1, 1) := by decide +kernel
theorem dX9_keepNow_3 : decode cX9_keepNow 3 = .ok (.bipush 10, 2) := by decide +kernel
theorem dX9_keepNow_5 : decode cX9_keepNow 5 = .ok (.if_icmp .ge 51, 3) := by decide +kernel
theorem dX9_keepNow_8 : decode cX9_keepNow 8 = .ok (.aload_n 0, 1) := by decide +kernel
theorem dX9_keepNow_9 : decode cX9_keepNow 9 = .ok (.getfield 37, 3) := by decide +kernel
theorem dX9_keepNow_12 : decode cX9_keepNow 12 = .ok (.iload_n 1, 1) := by decide +kernel
theorem dX9_keepNow_13 : decode cX9_keepNow 13 = .ok (.aload_n 0, 1) := by decide +kernel
theorem dX9_keepNow_14 : decode cX9_keepNow 14 = .ok (.getfield 7, 3) := by decide +kernel
theorem dX9_keepNow_17 : decode cX9_keepNow 17 = .ok (.iload_n 1, 1) := by decide +kernel
theorem dX9_keepNow_18 : decode cX9_keepNow 18 = .ok (.iaload, 1) := by decide +kernel
theorem dX9_keepNow_19 : decode cX9_keepNow 19 = .ok (.iastore, 1) := by decide +kernel
theorem dX9_keepNow_20 : decode cX9_keepNow 20 = .ok (.aload_n 0, 1) := by decide +kernel
theorem dX9_keepNow_21 : decode cX9_keepNow 21 = .ok (.getfield 37, 3) := by decide +kernel
theorem dX9_keepNow_24 : decode cX9_keepNow 24 = .ok (.bipush 10, 2) := by decide +kernel
theorem dX9_keepNow_26 : decode cX9_keepNow 26 = .ok (.iload_n 1, 1) := by decide +kernel
theorem dX9_keepNow_27 : decode cX9_keepNow 27 = .ok (.iadd, 1) := by decide +kernel
theorem dX9_keepNow_28 : decode cX9_keepNow 28 = .ok (.aload_n 0, 1) := by decide +kernel
theorem dX9_keepNow_29 : decode cX9_keepNow 29 = .ok (.getfield 13, 3) := by decide +kernel
theorem dX9_keepNow_32 : decode cX9_keepNow 32 = .ok (.iload_n 1, 1) := by decide +kernel
theorem dX9_keepNow_33 : decode cX9_keepNow 33 = .ok (.iaload, 1) := by decide +kernel
theorem dX9_keepNow_34 : decode cX9_keepNow 34 = .ok (.iastore, 1) := by decide +kernel
theorem dX9_keepNow_35 : decode cX9_keepNow 35 = .ok (.aload_n 0, 1) := by decide +kernel
theorem dX9_keepNow_36 : decode cX9_keepNow 36 = .ok (.getfield 37, 3) := by decide +kernel
theorem dX9_keepNow_39 : decode cX9_keepNow 39 = .ok (.bipush 20, 2) := by decide +kernel
theorem dX9_keepNow_41 : decode cX9_keepNow 41 = .ok (.iload_n 1, 1) := by decide +kernel
theorem dX9_keepNow_42 : decode cX9_keepNow 42 = .ok (.iadd, 1) := by decide +kernel
theorem dX9_keepNow_43 : decode cX9_keepNow 43 = .ok (.aload_n 0, 1) := by decide +kernel
theorem dX9_keepNow_44 : decode cX9_keepNow 44 = .ok (.getfield 16, 3) := by decide +kernel
theorem dX9_keepNow_47 : decode cX9_keepNow 47 = .ok (.iload_n 1, 1) := by decide +kernel
theorem dX9_keepNow_48 : decode cX9_keepNow 48 = .ok (.iaload, 1) := by decide +kernel
theorem dX9_keepNow_49 : decode cX9_keepNow 49 = .ok (.iastore, 1) := by decide +kernel
theorem dX9_keepNow_50 : decode cX9_keepNow 50 = .ok (.iinc 1 1, 3) := by decide +kernel
theorem dX9_keepNow_53 : decode cX9_keepNow 53 = .ok (.goto (-51), 3) := by decide +kernel
theorem dX9_keepNow_56 : decode cX9_keepNow 56 = .ok (.aload_n 0, 1) := by decide +kernel
theorem dX9_keepNow_57 : decode cX9_keepNow 57 = .ok (.getfield 37, 3) := by decide +kernel
theorem dX9_keepNow_60 : decode cX9_keepNow 60 = .ok (.bipush 30, 2) := by decide +kernel
theorem dX9_keepNow_62 : decode cX9_keepNow 62 = .ok (.aload_n 0, 1) := by decide +kernel
theorem dX9_keepNow_63 : decode cX9_keepNow 63 = .ok (.getfield 62, 3) := by decide +kernel
theorem dX9_keepNow_66 : decode cX9_keepNow 66 = .ok (.iastore, 1) := by decide +kernel
theorem dX9_keepNow_67 : decode cX9_keepNow 67 = .ok (.aload_n 0, 1) := by decide +kernel
theorem dX9_keepNow_68 : decode cX9_keepNow 68 = .ok (.getfield 37, 3) := by decide +kernel
theorem dX9_keepNow_71 : decode cX9_keepNow 71 = .ok (.bipush 31, 2) := by decide +kernel
theorem dX9_keepNow_73 : decode cX9_keepNow 73 = .ok (.aload_n 0, 1) := by decide +kernel
theorem dX9_keepNow_74 : decode cX9_keepNow 74 = .ok (.getfield 66, 3) := by decide +kernel
theorem dX9_keepNow_77 : decode cX9_keepNow 77 = .ok (.iastore, 1) := by decide +kernel
theorem dX9_keepNow_78 : decode cX9_keepNow 78 = .ok (.aload_n 0, 1) := by decide +kernel
theorem dX9_keepNow_79 : decode cX9_keepNow 79 = .ok (.getfield 37, 3) := by decide +kernel
theorem dX9_keepNow_82 : decode cX9_keepNow 82 = .ok (.bipush 32, 2) := by decide +kernel
theorem dX9_keepNow_84 : decode cX9_keepNow 84 = .ok (.aload_n 0, 1) := by decide +kernel
theorem dX9_keepNow_85 : decode cX9_keepNow 85 = .ok (.getfield 135, 3) := by decide +kernel
theorem dX9_keepNow_88 : decode cX9_keepNow 88 = .ok (.iastore, 1) := by decide +kernel
theorem dX9_keepNow_89 : decode cX9_keepNow 89 = .ok (.return_, 1) := by decide +kernel
theorem dX9_back_0 : decode cX9_back 0 = .ok (.iconst 0, 1) := by decide +kernel
theorem dX9_back_1 : decode cX9_back 1 = .ok (.istore_n 2, 1) := by decide +kernel
theorem dX9_back_2 : decode cX9_back 2 = .ok (.iload_n 2, 1) := by decide +kernel
theorem dX9_back_3 : decode cX9_back 3 = .ok (.bipush 10, 2) := by decide +kernel
theorem dX9_back_5 : decode cX9_back 5 = .ok (.if_icmp .ge 51, 3) := by decide +kernel
theorem dX9_back_8 : decode cX9_back 8 = .ok (.aload_n 0, 1) := by decide +kernel
theorem dX9_back_9 : decode cX9_back 9 = .ok (.getfield 7, 3) := by decide +kernel
theorem dX9_back_12 : decode cX9_back 12 = .ok (.iload_n 2, 1) := by decide +kernel
theorem dX9_back_13 : decode cX9_back 13 = .ok (.aload_n 0, 1) := by decide +kernel
theorem dX9_back_14 : decode cX9_back 14 = .ok (.getfield 37, 3) := by decide +kernel
theorem dX9_back_17 : decode cX9_back 17 = .ok (.iload_n 2, 1) := by decide +kernel
theorem dX9_back_18 : decode cX9_back 18 = .ok (.iaload, 1) := by decide +kernel
theorem dX9_back_19 : decode cX9_back 19 = .ok (.iastore, 1) := by decide +kernel
theorem dX9_back_20 : decode cX9_back 20 = .ok (.aload_n 0, 1) := by decide +kernel
theorem dX9_back_21 : decode cX9_back 21 = .ok (.getfield 13, 3) := by decide +kernel
theorem dX9_back_24 : decode cX9_back 24 = .ok (.iload_n 2, 1) := by decide +kernel
theorem dX9_back_25 : decode cX9_back 25 = .ok (.aload_n 0, 1) := by decide +kernel
theorem dX9_back_26 : decode cX9_back 26 = .ok (.getfield 37, 3) := by decide +kernel
theorem dX9_back_29 : decode cX9_back 29 = .ok (.bipush 10, 2) := by decide +kernel
theorem dX9_back_31 : decode cX9_back 31 = .ok (.iload_n 2, 1) := by decide +kernel
theorem dX9_back_32 : decode cX9_back 32 = .ok (.iadd, 1) := by decide +kernel
theorem dX9_back_33 : decode cX9_back 33 = .ok (.iaload, 1) := by decide +kernel
theorem dX9_back_34 : decode cX9_back 34 = .ok (.iastore, 1) := by decide +kernel
theorem dX9_back_35 : decode cX9_back 35 = .ok (.aload_n 0, 1) := by decide +kernel
theorem dX9_back_36 : decode cX9_back 36 = .ok (.getfield 16, 3) := by decide +kernel
theorem dX9_back_39 : decode cX9_back 39 = .ok (.iload_n 2, 1) := by decide +kernel
theorem dX9_back_40 : decode cX9_back 40 = .ok (.aload_n 0, 1) := by decide +kernel
theorem dX9_back_41 : decode cX9_back 41 = .ok (.getfield 37, 3) := by decide +kernel
theorem dX9_back_44 : decode cX9_back 44 = .ok (.bipush 20, 2) := by decide +kernel
theorem dX9_back_46 : decode cX9_back 46 = .ok (.iload_n 2, 1) := by decide +kernel
theorem dX9_back_47 : decode cX9_back 47 = .ok (.iadd, 1) := by decide +kernel
theorem dX9_back_48 : decode cX9_back 48 = .ok (.iaload, 1) := by decide +kernel
theorem dX9_back_49 : decode cX9_back 49 = .ok (.iastore, 1) := by decide +kernel
theorem dX9_back_50 : decode cX9_back 50 = .ok (.iinc 2 1, 3) := by decide +kernel
theorem dX9_back_53 : decode cX9_back 53 = .ok (.goto (-51), 3) := by decide +kernel
theorem dX9_back_56 : decode cX9_back 56 = .ok (.aload_n 0, 1) := by decide +kernel
theorem dX9_back_57 : decode cX9_back 57 = .ok (.aload_n 0, 1) := by decide +kernel
theorem dX9_back_58 : decode cX9_back 58 = .ok (.getfield 37, 3) := by decide +kernel
theorem dX9_back_61 : decode cX9_back 61 = .ok (.bipush 30, 2) := by decide +kernel
theorem dX9_back_63 : decode cX9_back 63 = .ok (.iaload, 1) := by decide +kernel
theorem dX9_back_64 : decode cX9_back 64 = .ok (.putfield 62, 3) := by decide +kernel
theorem dX9_back_67 : decode cX9_back 67 = .ok (.aload_n 0, 1) := by decide +kernel
theorem dX9_back_68 : decode cX9_back 68 = .ok (.aload_n 0, 1) := by decide +kernel
theorem dX9_back_69 : decode cX9_back 69 = .ok (.getfield 37, 3) := by decide +kernel
theorem dX9_back_72 : decode cX9_back 72 = .ok (.bipush 31, 2) := by decide +kernel
theorem dX9_back_74 : decode cX9_back 74 = .ok (.iaload, 1) := by decide +kernel
theorem dX9_back_75 : decode cX9_back 75 = .ok (.putfield 66, 3) := by decide +kernel
theorem dX9_back_78 : decode cX9_back 78 = .ok (.aload_n 0, 1) := by decide +kernel
theorem dX9_back_79 : decode cX9_back 79 = .ok (.aload_n 0, 1) := by decide +kernel
theorem dX9_back_80 : decode cX9_back 80 = .ok (.getfield 37, 3) := by decide +kernel
theorem dX9_back_83 : decode cX9_back 83 = .ok (.bipush 32, 2) := by decide +kernel
theorem dX9_back_85 : decode cX9_back 85 = .ok (.iaload, 1) := by decide +kernel
theorem dX9_back_86 : decode cX9_back 86 = .ok (.putfield 135, 3) := by decide +kernel
theorem dX9_back_89 : decode cX9_back 89 = .ok (.iload_n 1, 1) := by decide +kernel
theorem dX9_back_90 : decode cX9_back 90 = .ok (.ireturn, 1) := by decide +kernel
set_option maxRecDepth 20000 in
theorem ggX9_goOne_X9_happen : GoodIn wsX9_goOne wsX9_happen := goodIn_r _ [11, 12, 13, 14, 15, 10, 16, 17, 18, 1, 19, 20, 21, 22, 23, 24, 25, 26, 27, 28, 29, 30, 31, 32, 33, 34, 35, 36, 37, 38, 39, 40, 41, 42, 43, 44, 45, 46, 47, 48, 49, 50, 51, 52, 53, 54, 55, 56, 57, 58, 59, 60, 61, 62, 63, 64, 65, 66, 67, 68, 69, 70, 71, 72, 73, 74, 75, 76, 77, 78, 79, 80, 81, 82, 83, 84, 85] rfl (by decide +kernel)
set_option maxRecDepth 20000 in
theorem gX9_goOne_X9_happen : GoodIn wsX9_goOne (wsV RX9 166 RX9 yX9_happen wsX9_happen) := goodIn_app (goodIn_r _ [7, 8, 9, 10] rfl (by decide +kernel)) ggX9_goOne_X9_happen
theorem dX9_goOne_0 : decode cX9_goOne 0 = .ok (.aload_n 0, 1) := by decide +kernel
theorem dX9_goOne_1 : decode cX9_goOne 1 = .ok (.getfield 138, 3) := by decide +kernel
theorem dX9_goOne_4 : decode cX9_goOne 4 = .ok (.istore_n 2, 1) := by decide +kernel
theorem dX9_goOne_5 : decode cX9_goOne 5 = .ok (.aload_n 0, 1) := by decide +kernel
theorem dX9_goOne_6 : decode cX9_goOne 6 = .ok (.aload_n 0, 1) := by decide +kernel
theorem dX9_goOne_7 : decode cX9_goOne 7 = .ok (.getfield 28, 3) := by decide +kernel
theorem dX9_goOne_10 : decode cX9_goOne 10 = .ok (.iload_n 1, 1) := by decide +kernel
theorem dX9_goOne_11 : decode cX9_goOne 11 = .ok (.iaload, 1) := by decide +kernel
theorem dX9_goOne_12 : decode cX9_goOne 12 = .ok (.aload_n 0, 1) := by decide +kernel
theorem dX9_goOne_13 : decode cX9_goOne 13 = .ok (.getfield 31, 3) := by decide +kernel
theorem dX9_goOne_16 : decode cX9_goOne 16 = .ok (.iload_n 1, 1) := by decide +kernel
theorem dX9_goOne_17 : decode cX9_goOne 17 = .ok (.iaload, 1) := by decide +kernel
theorem dX9_goOne_18 : decode cX9_goOne 18 = .ok (.aload_n 0, 1) := by decide +kernel
theorem dX9_goOne_19 : decode cX9_goOne 19 = .ok (.getfield 34, 3) := by decide +kernel
theorem dX9_goOne_22 : decode cX9_goOne 22 = .ok (.iload_n 1, 1) := by decide +kernel
theorem dX9_goOne_23 : decode cX9_goOne 23 = .ok (.iaload, 1) := by decide +kernel
theorem dX9_goOne_24 : decode cX9_goOne 24 = .ok (.invokevirtual 166, 3) := by decide +kernel
theorem dX9_goOne_27 : decode cX9_goOne 27 = .ok (.aload_n 0, 1) := by decide +kernel
theorem dX9_goOne_28 : decode cX9_goOne 28 = .ok (.getfield 138, 3) := by decide +kernel
theorem dX9_goOne_31 : decode cX9_goOne 31 = .ok (.iload_n 2, 1) := by decide +kernel
theorem dX9_goOne_32 : decode cX9_goOne 32 = .ok (.if_icmp .le 25, 3) := by decide +kernel
theorem dX9_goOne_35 : decode cX9_goOne 35 = .ok (.aload_n 0, 1) := by decide +kernel
theorem dX9_goOne_36 : decode cX9_goOne 36 = .ok (.getfield 170, 3) := by decide +kernel
theorem dX9_goOne_39 : decode cX9_goOne 39 = .ok (.ifCond .ge 18, 3) := by decide +kernel
theorem dX9_goOne_42 : decode cX9_goOne 42 = .ok (.aload_n 0, 1) := by decide +kernel
theorem dX9_goOne_43 : decode cX9_goOne 43 = .ok (.iload_n 1, 1) := by decide +kernel
theorem dX9_goOne_44 : decode cX9_goOne 44 = .ok (.putfield 170, 3) := by decide +kernel
theorem dX9_goOne_47 : decode cX9_goOne 47 = .ok (.aload_n 0, 1) := by decide +kernel
theorem dX9_goOne_48 : decode cX9_goOne 48 = .ok (.aload_n 0, 1) := by decide +kernel
theorem dX9_goOne_49 : decode cX9_goOne 49 = .ok (.getfield 31, 3) := by decide +kernel
theorem dX9_goOne_52 : decode cX9_goOne 52 = .ok (.iload_n 1, 1) := by decide +kernel
theorem dX9_goOne_53 : decode cX9_goOne 53 = .ok (.iaload, 1) := by decide +kernel
theorem dX9_goOne_54 : decode cX9_goOne 54 = .ok (.putfield 173, 3) := by decide +kernel
theorem dX9_goOne_57 : decode cX9_goOne 57 = .ok (.return_, 1) := by decide +kernel
set_option maxRecDepth 20000 in
theorem ggX9_goYears_X9_whyNot : GoodIn wsX9_goYears wsX9_whyNot := goodIn_r _ [14, 15, 16, 17, 18, 19, 20, 13, 21, 67, 68, 69, 70, 71, 72, 73, 74, 75, 76, 77, 78, 79, 80, 81, 82, 83, 84, 85, 86, 87, 88, 89, 90, 91, 92, 93, 94, 95, 96] rfl (by decide +kernel)
set_option maxRecDepth 20000 in
theorem gX9_goYears_X9_whyNot : GoodIn wsX9_goYears (wsV RX9 182 RX9 yX9_whyNot wsX9_whyNot) := goodIn_app (goodIn_r _ [10, 11, 12, 13] rfl (by decide +kernel)) ggX9_goYears_X9_whyNot
set_option maxRecDepth 20000 in
theorem ggX9_goYears_X9_goOne : GoodIn wsX9_goYears wsX9_goOne := goodIn_r _ [25, 3, 7, 8, 9, 4, 5, 26, 27, 28, 13, 29, 30, 31, 32, 33, 34, 18, 16, 35, 36, 37, 38, 17, 39, 40, 41, 42, 43, 44, 45, 46, 47, 48, 49, 50, 51, 52, 53, 54, 55, 56, 57, 58, 15, 19, 20, 21, 59, 60, 61, 62, 63, 64, 65, 66, 67, 68, 69, 70, 71, 72, 73, 74, 75, 76, 77, 78, 79, 80, 81, 82, 83, 84, 85, 86, 87, 88, 89, 90, 91, 92, 93, 94, 95, 96] rfl (by decide +kernel)
set_option maxRecDepth 20000 in
theorem gX9_goYears_X9_goOne : GoodIn wsX9_goYears (wsV RX9 186 RX9 yX9_goOne wsX9_goOne) := goodIn_app (goodIn_r _ [22, 23, 24, 13] rfl (by decide +kernel)) ggX9_goYears_X9_goOne
theorem dX9_goYears_0 : decode cX9_goYears 0 = .ok (.aload_n 0, 1) := by decide +kernel
theorem dX9_goYears_1 : decode cX9_goYears 1 = .ok (.bipush (-6), 2) := by decide +kernel
theorem dX9_goYears_3 : decode cX9_goYears 3 = .ok (.putfield 176, 3) := by decide +kernel
theorem dX9_goYears_6 : decode cX9_goYears 6 = .ok (.aload_n 0, 1) := by decide +kernel
theorem dX9_goYears_7 : decode cX9_goYears 7 = .ok (.bipush (-6), 2) := by decide +kernel
theorem dX9_goYears_9 : decode cX9_goYears 9 = .ok (.putfield 179, 3) := by decide +kernel
theorem dX9_goYears_12 : decode cX9_goYears 12 = .ok (.aload_n 0, 1) := by decide +kernel
theorem dX9_goYears_13 : decode cX9_goYears 13 = .ok (.iconst 0, 1) := by decide +kernel
theorem dX9_goYears_14 : decode cX9_goYears 14 = .ok (.putfield 138, 3) := by decide +kernel
theorem dX9_goYears_17 : decode cX9_goYears 17 = .ok (.aload_n 0, 1) := by decide +kernel
theorem dX9_goYears_18 : decode cX9_goYears 18 = .ok (.bipush (-6), 2) := by decide +kernel
theorem dX9_goYears_20 : decode cX9_goYears 20 = .ok (.putfield 170, 3) := by decide +kernel
theorem dX9_goYears_23 : decode cX9_goYears 23 = .ok (.aload_n 0, 1) := by decide +kernel
theorem dX9_goYears_24 : decode cX9_goYears 24 = .ok (.bipush (-6), 2) := by decide +kernel
theorem dX9_goYears_26 : decode cX9_goYears 26 = .ok (.putfield 173, 3) := by decide +kernel
theorem dX9_goYears_29 : decode cX9_goYears 29 = .ok (.iconst 0, 1) := by decide +kernel
theorem dX9_goYears_30 : decode cX9_goYears 30 = .ok (.istore_n 1, 1) := by decide +kernel
theorem dX9_goYears_31 : decode cX9_goYears 31 = .ok (.iload_n 1, 1) := by decide +kernel
theorem dX9_goYears_32 : decode cX9_goYears 32 = .ok (.aload_n 0, 1) := by decide +kernel
theorem dX9_goYears_33 : decode cX9_goYears 33 = .ok (.getfield 104, 3) := by decide +kernel
theorem dX9_goYears_36 : decode cX9_goYears 36 = .ok (.if_icmp .ge 76, 3) := by decide +kernel
theorem dX9_goYears_39 : decode cX9_goYears 39 = .ok (.aload_n 0, 1) := by decide +kernel
theorem dX9_goYears_40 : decode cX9_goYears 40 = .ok (.getfield 176, 3) := by decide +kernel
theorem dX9_goYears_43 : decode cX9_goYears 43 = .ok (.ifCond .ge 69, 3) := by decide +kernel
theorem dX9_goYears_46 : decode cX9_goYears 46 = .ok (.aload_n 0, 1) := by decide +kernel
theorem dX9_goYears_47 : decode cX9_goYears 47 = .ok (.aload_n 0, 1) := by decide +kernel
theorem dX9_goYears_48 : decode cX9_goYears 48 = .ok (.getfield 28, 3) := by decide +kernel
theorem dX9_goYears_51 : decode cX9_goYears 51 = .ok (.iload_n 1, 1) := by decide +kernel
theorem dX9_goYears_52 : decode cX9_goYears 52 = .ok (.iaload, 1) := by decide +kernel
theorem dX9_goYears_53 : decode cX9_goYears 53 = .ok (.aload_n 0, 1) := by decide +kernel
theorem dX9_goYears_54 : decode cX9_goYears 54 = .ok (.getfield 31, 3) := by decide +kernel
theorem dX9_goYears_57 : decode cX9_goYears 57 = .ok (.iload_n 1, 1) := by decide +kernel
theorem dX9_goYears_58 : decode cX9_goYears 58 = .ok (.iaload, 1) := by decide +kernel
theorem dX9_goYears_59 : decode cX9_goYears 59 = .ok (.aload_n 0, 1) := by decide +kernel
theorem dX9_goYears_60 : decode cX9_goYears 60 = .ok (.getfield 34, 3) := by decide +kernel
theorem dX9_goYears_63 : decode cX9_goYears 63 = .ok (.iload_n 1, 1) := by decide +kernel
theorem dX9_goYears_64 : decode cX9_goYears 64 = .ok (.iaload, 1) := by decide +kernel
theorem dX9_goYears_65 : decode cX9_goYears 65 = .ok (.invokevirtual 182, 3) := by decide +kernel
theorem dX9_goYears_68 : decode cX9_goYears 68 = .ok (.istore_n 2, 1) := by decide +kernel
theorem dX9_goYears_69 : decode cX9_goYears 69 = .ok (.aload_n 0, 1) := by decide +kernel
theorem dX9_goYears_70 : decode cX9_goYears 70 = .ok (.iload_n 2, 1) := by decide +kernel
theorem dX9_goYears_71 : decode cX9_goYears 71 = .ok (.ifCond .le 7, 3) := by decide +kernel
theorem dX9_goYears_74 : decode cX9_goYears 74 = .ok (.iload_n 1, 1) := by decide +kernel
theorem dX9_goYears_75 : decode cX9_goYears 75 = .ok (.goto 5, 3) := by decide +kernel
theorem dX9_goYears_78 : decode cX9_goYears 78 = .ok (.bipush (-6), 2) := by decide +kernel
theorem dX9_goYears_80 : decode cX9_goYears 80 = .ok (.putfield 176, 3) := by decide +kernel
theorem dX9_goYears_83 : decode cX9_goYears 83 = .ok (.aload_n 0, 1) := by decide +kernel
theorem dX9_goYears_84 : decode cX9_goYears 84 = .ok (.iload_n 2, 1) := by decide +kernel
theorem dX9_goYears_85 : decode cX9_goYears 85 = .ok (.ifCond .le 7, 3) := by decide +kernel
theorem dX9_goYears_88 : decode cX9_goYears 88 = .ok (.iload_n 2, 1) := by decide +kernel
theorem dX9_goYears_89 : decode cX9_goYears 89 = .ok (.goto 5, 3) := by decide +kernel
theorem dX9_goYears_92 : decode cX9_goYears 92 = .ok (.bipush (-6), 2) := by decide +kernel
theorem dX9_goYears_94 : decode cX9_goYears 94 = .ok (.putfield 179, 3) := by decide +kernel
theorem dX9_goYears_97 : decode cX9_goYears 97 = .ok (.iload_n 2, 1) := by decide +kernel
theorem dX9_goYears_98 : decode cX9_goYears 98 = .ok (.ifCond .ne 8, 3) := by decide +kernel
theorem dX9_goYears_101 : decode cX9_goYears 101 = .ok (.aload_n 0, 1) := by decide +kernel
theorem dX9_goYears_102 : decode cX9_goYears 102 = .ok (.iload_n 1, 1) := by decide +kernel
theorem dX9_goYears_103 : decode cX9_goYears 103 = .ok (.invokevirtual 186, 3) := by decide +kernel
theorem dX9_goYears_106 : decode cX9_goYears 106 = .ok (.iinc 1 1, 3) := by decide +kernel
theorem dX9_goYears_109 : decode cX9_goYears 109 = .ok (.goto (-78), 3) := by decide +kernel
theorem dX9_goYears_112 : decode cX9_goYears 112 = .ok (.return_, 1) := by decide +kernel
set_option maxRecDepth 20000 in
theorem ggX9_refusal_X9_keepNow : GoodIn wsX9_refusal wsX9_keepNow := goodIn_r _ [6, 7, 8, 9, 10, 11, 12, 13, 110, 111, 112, 113, 114, 115, 116, 117, 118, 119, 120, 121, 122, 123, 124, 125, 126, 127, 128, 129, 130, 131, 132, 133, 134, 135, 136, 137, 138, 139] rfl (by decide +kernel)
set_option maxRecDepth 20000 in
theorem gX9_refusal_X9_keepNow : GoodIn wsX9_refusal (wsV RX9 189 RX9 yX9_keepNow wsX9_keepNow) := goodIn_app (goodIn_r _ [2, 3, 4, 5] rfl (by decide +kernel)) ggX9_refusal_X9_keepNow
set_option maxRecDepth 20000 in
theorem ggX9_refusal_X9_fault : GoodIn wsX9_refusal wsX9_fault := goodIn_r _ [17, 18, 19, 20, 21, 22, 23, 5, 24, 25, 26, 27, 28, 29, 30, 31, 32, 33, 34, 35, 36, 37, 38, 39, 40, 41, 42, 43, 44, 45, 46, 47, 48, 49, 50, 51, 110, 111, 112, 113, 114, 115, 116, 117, 118, 119, 120, 121, 122, 123, 124, 125, 126, 127, 128, 129, 130, 131, 132, 133, 134, 135, 136, 137, 138, 139] rfl (by decide +kernel)
set_option maxRecDepth 20000 in
theorem gX9_refusal_X9_fault : GoodIn wsX9_refusal (wsV RX9 192 RX9 yX9_fault wsX9_fault) := goodIn_app (goodIn_r _ [14, 15, 16, 5] rfl (by decide +kernel)) ggX9_refusal_X9_fault
set_option maxRecDepth 20000 in
theorem ggX9_refusal_X9_goYears : GoodIn wsX9_refusal wsX9_goYears := goodIn_r _ [55, 1, 56, 57, 58, 59, 18, 44, 31, 45, 60, 61, 62, 5, 63, 13, 11, 12, 8, 64, 65, 66, 67, 68, 69, 70, 71, 72, 73, 74, 9, 75, 76, 77, 78, 79, 80, 81, 82, 83, 84, 85, 86, 87, 88, 89, 90, 91, 92, 93, 10, 94, 95, 96, 97, 98, 99, 100, 101, 102, 103, 104, 105, 106, 107, 108, 109, 110, 111, 112, 113, 114, 115, 116, 117, 118, 119, 120, 121, 122, 123, 124, 125, 126, 127, 128, 129, 130, 131, 132, 133, 134, 135, 136, 137, 138, 139] rfl (by decide +kernel)
set_option maxRecDepth 20000 in
theorem gX9_refusal_X9_goYears : GoodIn wsX9_refusal (wsV RX9 196 RX9 yX9_goYears wsX9_goYears) := goodIn_app (goodIn_r _ [52, 53, 54, 5] rfl (by decide +kernel)) ggX9_refusal_X9_goYears
theorem dX9_refusal_0 : decode cX9_refusal 0 = .ok (.aload_n 0, 1) := by decide +kernel
theorem dX9_refusal_1 : decode cX9_refusal 1 = .ok (.invokevirtual 189, 3) := by decide +kernel
theorem dX9_refusal_4 : decode cX9_refusal 4 = .ok (.aload_n 0, 1) := by decide +kernel
theorem dX9_refusal_5 : decode cX9_refusal 5 = .ok (.invokevirtual 192, 3) := by decide +kernel
theorem dX9_refusal_8 : decode cX9_refusal 8 = .ok (.ifCond .lt 6, 3) := by decide +kernel
theorem dX9_refusal_11 : decode cX9_refusal 11 = .ok (.bipush (-5), 2) := by decide +kernel
theorem dX9_refusal_13 : decode cX9_refusal 13 = .ok (.ireturn, 1) := by decide +kernel
theorem dX9_refusal_14 : decode cX9_refusal 14 = .ok (.aload_n 0, 1) := by decide +kernel
theorem dX9_refusal_15 : decode cX9_refusal 15 = .ok (.invokevirtual 196, 3) := by decide +kernel
theorem dX9_refusal_18 : decode cX9_refusal 18 = .ok (.aload_n 0, 1) := by decide +kernel
theorem dX9_refusal_19 : decode cX9_refusal 19 = .ok (.getfield 176, 3) := by decide +kernel
theorem dX9_refusal_22 : decode cX9_refusal 22 = .ok (.ifCond .lt 8, 3) := by decide +kernel
theorem dX9_refusal_25 : decode cX9_refusal 25 = .ok (.bipush (-3), 2) := by decide +kernel
theorem dX9_refusal_27 : decode cX9_refusal 27 = .ok (.goto 5, 3) := by decide +kernel
theorem dX9_refusal_30 : decode cX9_refusal 30 = .ok (.bipush (-6), 2) := by decide +kernel
theorem dX9_refusal_32 : decode cX9_refusal 32 = .ok (.ireturn, 1) := by decide +kernel
set_option maxRecDepth 20000 in
theorem ggX9_judge_X9_in : GoodIn wsX9_judge wsX9_in := goodIn_r _ [8] rfl (by decide +kernel)
set_option maxRecDepth 20000 in
theorem gX9_judge_X9_in : GoodIn wsX9_judge (va_wsS RX9 71 yX9_in wsX9_in) := goodIn_app (goodIn_r _ [5, 6, 7] rfl (by decide +kernel)) ggX9_judge_X9_in
set_option maxRecDepth 20000 in
theorem ggX9_judge_X9_refusal : GoodIn wsX9_judge wsX9_refusal := goodIn_r _ [12, 2, 13, 14, 15, 7, 16, 17, 18, 19, 20, 21, 22, 23, 24, 25, 26, 27, 28, 29, 30, 31, 32, 33, 34, 35, 36, 37, 38, 39, 40, 41, 42, 43, 44, 45, 46, 5, 6, 8, 47, 48, 49, 50, 51, 52, 53, 54, 55, 56, 57, 58, 59, 60, 61, 62, 3, 4, 63, 64, 65, 66, 67, 68, 69, 70, 71, 72, 73, 74, 75, 76, 77, 78, 79, 80, 81, 82, 83, 84, 85, 86, 87, 88, 89, 90, 91, 92, 93, 94, 95, 96, 97, 98, 99, 100, 101, 102, 103, 104, 105, 106, 107, 108, 109, 110, 111, 112, 113, 114, 119, 120, 121, 122, 123, 124, 125, 126, 127, 128, 129, 130, 131, 132, 133, 134, 135, 136, 137, 138, 139, 140, 141, 142, 143, 144, 145, 146, 147, 148] rfl (by decide +kernel)
set_option maxRecDepth 20000 in
theorem gX9_judge_X9_refusal : GoodIn wsX9_judge (wsV RX9 201 RX9 yX9_refusal wsX9_refusal) := goodIn_app (goodIn_r _ [9, 10, 11, 7] rfl (by decide +kernel)) ggX9_judge_X9_refusal
set_option maxRecDepth 20000 in
theorem ggX9_judge_X9_back : GoodIn wsX9_judge wsX9_back := goodIn_r _ [118, 18, 17, 19, 20, 21, 22, 23, 119, 120, 121, 122, 123, 124, 125, 126, 127, 128, 129, 130, 131, 132, 133, 134, 135, 136, 137, 138, 139, 140, 141, 142, 143, 144, 145, 146, 147, 148] rfl (by decide +kernel)
set_option maxRecDepth 20000 in
theorem gX9_judge_X9_back : GoodIn wsX9_judge (wsV RX9 204 RX9 yX9_back wsX9_back) := goodIn_app (goodIn_r _ [115, 116, 117, 7] rfl (by decide +kernel)) ggX9_judge_X9_back
theorem dX9_judge_0 : decode cX9_judge 0 = .ok (.iload_n 1, 1) := by decide +kernel
theorem dX9_judge_1 : decode cX9_judge 1 = .ok (.i2l, 1) := by decide +kernel
theorem dX9_judge_2 : decode cX9_judge 2 = .ok (.lconst 0, 1) := by decide +kernel
theorem dX9_judge_3 : decode cX9_judge 3 = .ok (.ldc2_w 199, 3) := by decide +kernel
theorem dX9_judge_6 : decode cX9_judge 6 = .ok (.invokestatic 71, 3) := by decide +kernel
theorem dX9_judge_9 : decode cX9_judge 9 = .ok (.ifCond .ne 6, 3) := by decide +kernel
theorem dX9_judge_12 : decode cX9_judge 12 = .ok (.bipush (-2), 2) := by decide +kernel
theorem dX9_judge_14 : decode cX9_judge 14 = .ok (.ireturn, 1) := by decide +kernel
theorem dX9_judge_15 : decode cX9_judge 15 = .ok (.aload_n 0, 1) := by decide +kernel
theorem dX9_judge_16 : decode cX9_judge 16 = .ok (.aload_n 0, 1) := by decide +kernel
theorem dX9_judge_17 : decode cX9_judge 17 = .ok (.invokevirtual 201, 3) := by decide +kernel
theorem dX9_judge_20 : decode cX9_judge 20 = .ok (.invokevirtual 204, 3) := by decide +kernel
theorem dX9_judge_23 : decode cX9_judge 23 = .ok (.istore_n 2, 1) := by decide +kernel
theorem dX9_judge_24 : decode cX9_judge 24 = .ok (.iload_n 2, 1) := by decide +kernel
theorem dX9_judge_25 : decode cX9_judge 25 = .ok (.bipush (-5), 2) := by decide +kernel
theorem dX9_judge_27 : decode cX9_judge 27 = .ok (.if_icmp .eq 14, 3) := by decide +kernel
theorem dX9_judge_30 : decode cX9_judge 30 = .ok (.iload_n 1, 1) := by decide +kernel
theorem dX9_judge_31 : decode cX9_judge 31 = .ok (.iconst 1, 1) := by decide +kernel
theorem dX9_judge_32 : decode cX9_judge 32 = .ok (.if_icmp .le 11, 3) := by decide +kernel
theorem dX9_judge_35 : decode cX9_judge 35 = .ok (.iload_n 2, 1) := by decide +kernel
theorem dX9_judge_36 : decode cX9_judge 36 = .ok (.bipush (-3), 2) := by decide +kernel
theorem dX9_judge_38 : decode cX9_judge 38 = .ok (.if_icmp .ne 5, 3) := by decide +kernel
theorem dX9_judge_41 : decode cX9_judge 41 = .ok (.iload_n 2, 1) := by decide +kernel
theorem dX9_judge_42 : decode cX9_judge 42 = .ok (.ireturn, 1) := by decide +kernel
theorem dX9_judge_43 : decode cX9_judge 43 = .ok (.iload_n 1, 1) := by decide +kernel
theorem dX9_judge_44 : decode cX9_judge 44 = .ok (.ifCond .ne 10, 3) := by decide +kernel
theorem dX9_judge_47 : decode cX9_judge 47 = .ok (.aload_n 0, 1) := by decide +kernel
theorem dX9_judge_48 : decode cX9_judge 48 = .ok (.getfield 176, 3) := by decide +kernel
theorem dX9_judge_51 : decode cX9_judge 51 = .ok (.goto 19, 3) := by decide +kernel
theorem dX9_judge_54 : decode cX9_judge 54 = .ok (.iload_n 1, 1) := by decide +kernel
theorem dX9_judge_55 : decode cX9_judge 55 = .ok (.iconst 1, 1) := by decide +kernel
theorem dX9_judge_56 : decode cX9_judge 56 = .ok (.if_icmp .ne 10, 3) := by decide +kernel
theorem dX9_judge_59 : decode cX9_judge 59 = .ok (.aload_n 0, 1) := by decide +kernel
theorem dX9_judge_60 : decode cX9_judge 60 = .ok (.getfield 179, 3) := by decide +kernel
theorem dX9_judge_63 : decode cX9_judge 63 = .ok (.goto 7, 3) := by decide +kernel
theorem dX9_judge_66 : decode cX9_judge 66 = .ok (.aload_n 0, 1) := by decide +kernel
theorem dX9_judge_67 : decode cX9_judge 67 = .ok (.getfield 138, 3) := by decide +kernel
theorem dX9_judge_70 : decode cX9_judge 70 = .ok (.ireturn, 1) := by decide +kernel
set_option maxRecDepth 20000 in
theorem ggX9_ofHassock_X9_has : GoodIn wsX9_ofHassock wsX9_has := goodIn_r _ [8] rfl (by decide +kernel)
set_option maxRecDepth 20000 in
theorem gX9_ofHassock_X9_has : GoodIn wsX9_ofHassock (va_wsS RX9 87 yX9_has wsX9_has) := goodIn_app (goodIn_r _ [5, 6, 7] rfl (by decide +kernel)) ggX9_ofHassock_X9_has
theorem dX9_ofHassock_0 : decode cX9_ofHassock 0 = .ok (.aload_n 0, 1) := by decide +kernel
theorem dX9_ofHassock_1 : decode cX9_ofHassock 1 = .ok (.getfield 62, 3) := by decide +kernel
theorem dX9_ofHassock_4 : decode cX9_ofHassock 4 = .ok (.iload_n 1, 1) := by decide +kernel
theorem dX9_ofHassock_5 : decode cX9_ofHassock 5 = .ok (.invokestatic 87, 3) := by decide +kernel
theorem dX9_ofHassock_8 : decode cX9_ofHassock 8 = .ok (.istore_n 3, 1) := by decide +kernel
theorem dX9_ofHassock_9 : decode cX9_ofHassock 9 = .ok (.iload_n 2, 1) := by decide +kernel
theorem dX9_ofHassock_10 : decode cX9_ofHassock 10 = .ok (.tableswitch 68 0 2 #[26, 36, 52], 26) := by decide +kernel
theorem dX9_ofHassock_36 : decode cX9_ofHassock 36 = .ok (.iload_n 3, 1) := by decide +kernel
theorem dX9_ofHassock_37 : decode cX9_ofHassock 37 = .ok (.ifCond .eq 7, 3) := by decide +kernel
theorem dX9_ofHassock_40 : decode cX9_ofHassock 40 = .ok (.iconst 1, 1) := by decide +kernel
theorem dX9_ofHassock_41 : decode cX9_ofHassock 41 = .ok (.goto 4, 3) := by decide +kernel
theorem dX9_ofHassock_44 : decode cX9_ofHassock 44 = .ok (.iconst 0, 1) := by decide +kernel
theorem dX9_ofHassock_45 : decode cX9_ofHassock 45 = .ok (.ireturn, 1) := by decide +kernel
theorem dX9_ofHassock_46 : decode cX9_ofHassock 46 = .ok (.iload_n 3, 1) := by decide +kernel
theorem dX9_ofHassock_47 : decode cX9_ofHassock 47 = .ok (.ifCond .eq 12, 3) := by decide +kernel
theorem dX9_ofHassock_50 : decode cX9_ofHassock 50 = .ok (.aload_n 0, 1) := by decide +kernel
theorem dX9_ofHassock_51 : decode cX9_ofHassock 51 = .ok (.getfield 7, 3) := by decide +kernel
theorem dX9_ofHassock_54 : decode cX9_ofHassock 54 = .ok (.iload_n 1, 1) := by decide +kernel
theorem dX9_ofHassock_55 : decode cX9_ofHassock 55 = .ok (.iaload, 1) := by decide +kernel
theorem dX9_ofHassock_56 : decode cX9_ofHassock 56 = .ok (.goto 5, 3) := by decide +kernel
theorem dX9_ofHassock_59 : decode cX9_ofHassock 59 = .ok (.bipush (-6), 2) := by decide +kernel
theorem dX9_ofHassock_61 : decode cX9_ofHassock 61 = .ok (.ireturn, 1) := by decide +kernel
theorem dX9_ofHassock_62 : decode cX9_ofHassock 62 = .ok (.iload_n 3, 1) := by decide +kernel
theorem dX9_ofHassock_63 : decode cX9_ofHassock 63 = .ok (.ifCond .eq 12, 3) := by decide +kernel
theorem dX9_ofHassock_66 : decode cX9_ofHassock 66 = .ok (.aload_n 0, 1) := by decide +kernel
theorem dX9_ofHassock_67 : decode cX9_ofHassock 67 = .ok (.getfield 13, 3) := by decide +kernel
theorem dX9_ofHassock_70 : decode cX9_ofHassock 70 = .ok (.iload_n 1, 1) := by decide +kernel
theorem dX9_ofHassock_71 : decode cX9_ofHassock 71 = .ok (.iaload, 1) := by decide +kernel
theorem dX9_ofHassock_72 : decode cX9_ofHassock 72 = .ok (.goto 5, 3) := by decide +kernel
theorem dX9_ofHassock_75 : decode cX9_ofHassock 75 = .ok (.bipush (-6), 2) := by decide +kernel
theorem dX9_ofHassock_77 : decode cX9_ofHassock 77 = .ok (.ireturn, 1) := by decide +kernel
theorem dX9_ofHassock_78 : decode cX9_ofHassock 78 = .ok (.aload_n 0, 1) := by decide +kernel
theorem dX9_ofHassock_79 : decode cX9_ofHassock 79 = .ok (.getfield 16, 3) := by decide +kernel
theorem dX9_ofHassock_82 : decode cX9_ofHassock 82 = .ok (.iload_n 1, 1) := by decide +kernel
theorem dX9_ofHassock_83 : decode cX9_ofHassock 83 = .ok (.iaload, 1) := by decide +kernel
theorem dX9_ofHassock_84 : decode cX9_ofHassock 84 = .ok (.ireturn, 1) := by decide +kernel
set_option maxRecDepth 20000 in
theorem ggX9_behind_X9_isHassock : GoodIn wsX9_behind wsX9_isHassock := goodIn_r _ [5, 6, 7, 8, 4, 9] rfl (by decide +kernel)
set_option maxRecDepth 20000 in
theorem gX9_behind_X9_isHassock : GoodIn wsX9_behind (va_wsS RX9 75 yX9_isHassock wsX9_isHassock) := goodIn_app (goodIn_r _ [2, 3, 4] rfl (by decide +kernel)) ggX9_behind_X9_isHassock
set_option maxRecDepth 20000 in
theorem ggX9_behind_X9_in : GoodIn wsX9_behind wsX9_in := goodIn_r _ [9] rfl (by decide +kernel)
set_option maxRecDepth 20000 in
theorem gX9_behind_X9_in : GoodIn wsX9_behind (va_wsS RX9 71 yX9_in wsX9_in) := goodIn_app (goodIn_r _ [7, 8, 4] rfl (by decide +kernel)) ggX9_behind_X9_in
set_option maxRecDepth 20000 in
theorem ggX9_behind_X9_refusal : GoodIn wsX9_behind wsX9_refusal := goodIn_r _ [13, 14, 15, 16, 17, 4, 18, 19, 20, 21, 22, 23, 24, 25, 26, 27, 28, 29, 30, 31, 32, 33, 34, 35, 36, 37, 38, 39, 40, 41, 42, 43, 44, 45, 46, 47, 48, 7, 8, 9, 49, 50, 51, 52, 53, 54, 55, 56, 57, 58, 59, 60, 61, 62, 63, 64, 65, 66, 67, 68, 69, 70, 71, 72, 73, 74, 75, 76, 77, 78, 79, 80, 81, 82, 83, 84, 85, 86, 87, 88, 89, 90, 91, 92, 93, 94, 95, 96, 97, 98, 99, 100, 101, 102, 103, 104, 105, 106, 107, 108, 109, 110, 111, 112, 113, 114, 115, 116, 117, 118, 127, 128, 129, 130, 131, 132, 133, 134, 135, 136, 137, 138, 139, 140, 141, 142, 143, 144, 145, 146, 147, 148, 149, 150, 151, 152, 153, 154, 155, 156] rfl (by decide +kernel)
set_option maxRecDepth 20000 in
theorem gX9_behind_X9_refusal : GoodIn wsX9_behind (wsV RX9 201 RX9 yX9_refusal wsX9_refusal) := goodIn_app (goodIn_r _ [10, 11, 12, 4] rfl (by decide +kernel)) ggX9_behind_X9_refusal
set_option maxRecDepth 20000 in
theorem ggX9_behind_X9_ofHassock : GoodIn wsX9_behind wsX9_ofHassock := goodIn_r _ [122, 23, 20, 21, 22, 73, 74, 4, 75, 127, 128, 129, 130, 131, 132, 133, 134, 135, 136, 137, 138, 139, 140, 141, 142, 143, 144, 145, 146, 147, 148, 149, 150, 151, 152, 153, 154, 155, 156] rfl (by decide +kernel)
set_option maxRecDepth 20000 in
theorem gX9_behind_X9_ofHassock : GoodIn wsX9_behind (wsV RX9 209 RX9 yX9_ofHassock wsX9_ofHassock) := goodIn_app (goodIn_r _ [119, 120, 121, 4] rfl (by decide +kernel)) ggX9_behind_X9_ofHassock
set_option maxRecDepth 20000 in
theorem ggX9_behind_X9_back : GoodIn wsX9_behind wsX9_back := goodIn_r _ [126, 20, 19, 21, 22, 23, 24, 25, 127, 128, 129, 130, 131, 132, 133, 134, 135, 136, 137, 138, 139, 140, 141, 142, 143, 144, 145, 146, 147, 148, 149, 150, 151, 152, 153, 154, 155, 156] rfl (by decide +kernel)
set_option maxRecDepth 20000 in
theorem gX9_behind_X9_back : GoodIn wsX9_behind (wsV RX9 204 RX9 yX9_back wsX9_back) := goodIn_app (goodIn_r _ [123, 124, 125, 4] rfl (by decide +kernel)) ggX9_behind_X9_back
theorem dX9_behind_0 : decode cX9_behind 0 = .ok (.iload_n 1, 1) := by decide +kernel
theorem dX9_behind_1 : decode cX9_behind 1 = .ok (.invokestatic 75, 3) := by decide +kernel
theorem dX9_behind_4 : decode cX9_behind 4 = .ok (.ifCond .ne 5, 3) := by decide +kernel
theorem dX9_behind_7 : decode cX9_behind 7 = .ok (.iconst (-1), 1) := by decide +kernel
theorem dX9_behind_8 : decode cX9_behind 8 = .ok (.ireturn, 1) := by decide +kernel
theorem dX9_behind_9 : decode cX9_behind 9 = .ok (.iload_n 2, 1) := by decide +kernel
theorem dX9_behind_10 : decode cX9_behind 10 = .ok (.i2l, 1) := by decide +kernel
theorem dX9_behind_11 : decode cX9_behind 11 = .ok (.lconst 0, 1) := by decide +kernel
theorem dX9_behind_12 : decode cX9_behind 12 = .ok (.ldc2_w 207, 3) := by decide +kernel
theorem dX9_behind_15 : decode cX9_behind 15 = .ok (.invokestatic 71, 3) := by decide +kernel
theorem dX9_behind_18 : decode cX9_behind 18 = .ok (.ifCond .ne 6, 3) := by decide +kernel
theorem dX9_behind_21 : decode cX9_behind 21 = .ok (.bipush (-2), 2) := by decide +kernel
theorem dX9_behind_23 : decode cX9_behind 23 = .ok (.ireturn, 1) := by decide +kernel
theorem dX9_behind_24 : decode cX9_behind 24 = .ok (.aload_n 0, 1) := by decide +kernel
theorem dX9_behind_25 : decode cX9_behind 25 = .ok (.invokevirtual 201, 3) := by decide +kernel
theorem dX9_behind_28 : decode cX9_behind 28 = .ok (.istore_n 3, 1) := by decide +kernel
theorem dX9_behind_29 : decode cX9_behind 29 = .ok (.aload_n 0, 1) := by decide +kernel
theorem dX9_behind_30 : decode cX9_behind 30 = .ok (.iload_n 3, 1) := by decide +kernel
theorem dX9_behind_31 : decode cX9_behind 31 = .ok (.bipush (-6), 2) := by decide +kernel
theorem dX9_behind_33 : decode cX9_behind 33 = .ok (.if_icmp .eq 7, 3) := by decide +kernel
theorem dX9_behind_36 : decode cX9_behind 36 = .ok (.iload_n 3, 1) := by decide +kernel
theorem dX9_behind_37 : decode cX9_behind 37 = .ok (.goto 9, 3) := by decide +kernel
theorem dX9_behind_40 : decode cX9_behind 40 = .ok (.aload_n 0, 1) := by decide +kernel
theorem dX9_behind_41 : decode cX9_behind 41 = .ok (.iload_n 1, 1) := by decide +kernel
theorem dX9_behind_42 : decode cX9_behind 42 = .ok (.iload_n 2, 1) := by decide +kernel
theorem dX9_behind_43 : decode cX9_behind 43 = .ok (.invokevirtual 209, 3) := by decide +kernel
theorem dX9_behind_46 : decode cX9_behind 46 = .ok (.invokevirtual 204, 3) := by decide +kernel
theorem dX9_behind_49 : decode cX9_behind 49 = .ok (.ireturn, 1) := by decide +kernel
set_option maxRecDepth 20000 in
theorem ggX9_allStitches_X9_has : GoodIn wsX9_allStitches wsX9_has := goodIn_r _ [6] rfl (by decide +kernel)
set_option maxRecDepth 20000 in
theorem gX9_allStitches_X9_has : GoodIn wsX9_allStitches (va_wsS RX9 87 yX9_has wsX9_has) := goodIn_app (goodIn_r _ [3, 4, 5] rfl (by decide +kernel)) ggX9_allStitches_X9_has
set_option maxRecDepth 20000 in
theorem ggX9_allStitches_X9_ones : GoodIn wsX9_allStitches wsX9_ones := goodIn_r _ [9] rfl (by decide +kernel)
set_option maxRecDepth 20000 in
theorem gX9_allStitches_X9_ones : GoodIn wsX9_allStitches (va_wsS RX9 83 yX9_ones wsX9_ones) := goodIn_app (goodIn_r _ [7, 8, 5] rfl (by decide +kernel)) ggX9_allStitches_X9_ones
theorem dX9_allStitches_0 : decode cX9_allStitches 0 = .ok (.iconst 0, 1) := by decide +kernel
theorem dX9_allStitches_1 : decode cX9_allStitches 1 = .ok (.istore_n 1, 1) := by decide +kernel
theorem dX9_allStitches_2 : decode cX9_allStitches 2 = .ok (.iconst 0, 1) := by decide +kernel
theorem dX9_allStitches_3 : decode cX9_allStitches 3 = .ok (.istore_n 2, 1) := by decide +kernel
theorem dX9_allStitches_4 : decode cX9_allStitches 4 = .ok (.iload_n 2, 1) := by decide +kernel
theorem dX9_allStitches_5 : decode cX9_allStitches 5 = .ok (.bipush 10, 2) := by decide +kernel
theorem dX9_allStitches_7 : decode cX9_allStitches 7 = .ok (.if_icmp .ge 36, 3) := by decide +kernel
theorem dX9_allStitches_10 : decode cX9_allStitches 10 = .ok (.iload_n 1, 1) := by decide +kernel
theorem dX9_allStitches_11 : decode cX9_allStitches 11 = .ok (.aload_n 0, 1) := by decide +kernel
theorem dX9_allStitches_12 : decode cX9_allStitches 12 = .ok (.getfield 62, 3) := by decide +kernel
theorem dX9_allStitches_15 : decode cX9_allStitches 15 = .ok (.iload_n 2, 1) := by decide +kernel
theorem dX9_allStitches_16 : decode cX9_allStitches 16 = .ok (.invokestatic 87, 3) := by decide +kernel
theorem dX9_allStitches_19 : decode cX9_allStitches 19 = .ok (.ifCond .eq 15, 3) := by decide +kernel
theorem dX9_allStitches_22 : decode cX9_allStitches 22 = .ok (.aload_n 0, 1) := by decide +kernel
theorem dX9_allStitches_23 : decode cX9_allStitches 23 = .ok (.getfield 13, 3) := by decide +kernel
theorem dX9_allStitches_26 : decode cX9_allStitches 26 = .ok (.iload_n 2, 1) := by decide +kernel
theorem dX9_allStitches_27 : decode cX9_allStitches 27 = .ok (.iaload, 1) := by decide +kernel
theorem dX9_allStitches_28 : decode cX9_allStitches 28 = .ok (.invokestatic 83, 3) := by decide +kernel
theorem dX9_allStitches_31 : decode cX9_allStitches 31 = .ok (.goto 4, 3) := by decide +kernel
theorem dX9_allStitches_34 : decode cX9_allStitches 34 = .ok (.iconst 0, 1) := by decide +kernel
theorem dX9_allStitches_35 : decode cX9_allStitches 35 = .ok (.iadd, 1) := by decide +kernel
theorem dX9_allStitches_36 : decode cX9_allStitches 36 = .ok (.istore_n 1, 1) := by decide +kernel
theorem dX9_allStitches_37 : decode cX9_allStitches 37 = .ok (.iinc 2 1, 3) := by decide +kernel
theorem dX9_allStitches_40 : decode cX9_allStitches 40 = .ok (.goto (-36), 3) := by decide +kernel
theorem dX9_allStitches_43 : decode cX9_allStitches 43 = .ok (.iload_n 1, 1) := by decide +kernel
theorem dX9_allStitches_44 : decode cX9_allStitches 44 = .ok (.ireturn, 1) := by decide +kernel
set_option maxRecDepth 20000 in
theorem ggX9_see_X9_in : GoodIn wsX9_see wsX9_in := goodIn_r _ [8] rfl (by decide +kernel)
set_option maxRecDepth 20000 in
theorem gX9_see_X9_in : GoodIn wsX9_see (va_wsS RX9 71 yX9_in wsX9_in) := goodIn_app (goodIn_r _ [5, 6, 7] rfl (by decide +kernel)) ggX9_see_X9_in
set_option maxRecDepth 20000 in
theorem ggX9_see_X9_refusal : GoodIn wsX9_see wsX9_refusal := goodIn_r _ [12, 13, 14, 15, 16, 7, 17, 18, 19, 20, 21, 3, 2, 4, 22, 23, 24, 25, 26, 27, 28, 29, 30, 31, 32, 33, 34, 35, 36, 37, 38, 39, 40, 41, 42, 43, 44, 5, 6, 8, 45, 46, 47, 48, 49, 50, 51, 52, 53, 54, 55, 56, 57, 58, 59, 60, 61, 62, 63, 64, 65, 66, 67, 68, 69, 70, 71, 72, 73, 74, 75, 76, 77, 78, 79, 80, 81, 82, 83, 84, 85, 86, 87, 88, 89, 90, 91, 92, 93, 94, 95, 96, 97, 98, 99, 100, 101, 102, 103, 104, 105, 106, 107, 108, 109, 110, 111, 112, 113, 114, 126, 127, 128, 129, 130, 131, 132, 133, 134, 135, 136, 137, 138, 139, 140, 141, 142, 143, 144, 145, 146, 147, 148, 149, 150, 151, 152, 153, 154, 155] rfl (by decide +kernel)
set_option maxRecDepth 20000 in
theorem gX9_see_X9_refusal : GoodIn wsX9_see (wsV RX9 201 RX9 yX9_refusal wsX9_refusal) := goodIn_app (goodIn_r _ [9, 10, 11, 7] rfl (by decide +kernel)) ggX9_see_X9_refusal
set_option maxRecDepth 20000 in
theorem ggX9_see_X9_allStitches : GoodIn wsX9_see wsX9_allStitches := goodIn_r _ [118, 3, 20, 69, 70, 7, 71, 119, 120, 121, 126, 127, 128, 129, 130, 131, 132, 133, 134, 135, 136, 137, 138, 139, 140, 141, 142, 143, 144, 145, 146, 147, 148, 149, 150, 151, 152, 153, 154, 155] rfl (by decide +kernel)
set_option maxRecDepth 20000 in
theorem gX9_see_X9_allStitches : GoodIn wsX9_see (wsV RX9 212 RX9 yX9_allStitches wsX9_allStitches) := goodIn_app (goodIn_r _ [115, 116, 117, 7] rfl (by decide +kernel)) ggX9_see_X9_allStitches
set_option maxRecDepth 20000 in
theorem ggX9_see_X9_back : GoodIn wsX9_see wsX9_back := goodIn_r _ [125, 19, 18, 20, 21, 3, 2, 4, 126, 127, 128, 129, 130, 131, 132, 133, 134, 135, 136, 137, 138, 139, 140, 141, 142, 143, 144, 145, 146, 147, 148, 149, 150, 151, 152, 153, 154, 155] rfl (by decide +kernel)
set_option maxRecDepth 20000 in
theorem gX9_see_X9_back : GoodIn wsX9_see (wsV RX9 204 RX9 yX9_back wsX9_back) := goodIn_app (goodIn_r _ [122, 123, 124, 7] rfl (by decide +kernel)) ggX9_see_X9_back
theorem dX9_see_0 : decode cX9_see 0 = .ok (.iload_n 1, 1) := by decide +kernel
theorem dX9_see_1 : decode cX9_see 1 = .ok (.i2l, 1) := by decide +kernel
theorem dX9_see_2 : decode cX9_see 2 = .ok (.lconst 0, 1) := by decide +kernel
theorem dX9_see_3 : decode cX9_see 3 = .ok (.ldc2_w 207, 3) := by decide +kernel
theorem dX9_see_6 : decode cX9_see 6 = .ok (.invokestatic 71, 3) := by decide +kernel
theorem dX9_see_9 : decode cX9_see 9 = .ok (.ifCond .ne 6, 3) := by decide +kernel
theorem dX9_see_12 : decode cX9_see 12 = .ok (.bipush (-2), 2) := by decide +kernel
theorem dX9_see_14 : decode cX9_see 14 = .ok (.ireturn, 1) := by decide +kernel
theorem dX9_see_15 : decode cX9_see 15 = .ok (.aload_n 0, 1) := by decide +kernel
theorem dX9_see_16 : decode cX9_see 16 = .ok (.invokevirtual 201, 3) := by decide +kernel
theorem dX9_see_19 : decode cX9_see 19 = .ok (.istore_n 2, 1) := by decide +kernel
theorem dX9_see_20 : decode cX9_see 20 = .ok (.aload_n 0, 1) := by decide +kernel
theorem dX9_see_21 : decode cX9_see 21 = .ok (.iload_n 2, 1) := by decide +kernel
theorem dX9_see_22 : decode cX9_see 22 = .ok (.bipush (-6), 2) := by decide +kernel
theorem dX9_see_24 : decode cX9_see 24 = .ok (.if_icmp .eq 7, 3) := by decide +kernel
theorem dX9_see_27 : decode cX9_see 27 = .ok (.iload_n 2, 1) := by decide +kernel
theorem dX9_see_28 : decode cX9_see 28 = .ok (.goto 42, 3) := by decide +kernel
theorem dX9_see_31 : decode cX9_see 31 = .ok (.iload_n 1, 1) := by decide +kernel
theorem dX9_see_32 : decode cX9_see 32 = .ok (.ifCond .ne 10, 3) := by decide +kernel
theorem dX9_see_35 : decode cX9_see 35 = .ok (.aload_n 0, 1) := by decide +kernel
theorem dX9_see_36 : decode cX9_see 36 = .ok (.getfield 66, 3) := by decide +kernel
theorem dX9_see_39 : decode cX9_see 39 = .ok (.goto 31, 3) := by decide +kernel
theorem dX9_see_42 : decode cX9_see 42 = .ok (.iload_n 1, 1) := by decide +kernel
theorem dX9_see_43 : decode cX9_see 43 = .ok (.iconst 1, 1) := by decide +kernel
theorem dX9_see_44 : decode cX9_see 44 = .ok (.if_icmp .ne 10, 3) := by decide +kernel
theorem dX9_see_47 : decode cX9_see 47 = .ok (.aload_n 0, 1) := by decide +kernel
theorem dX9_see_48 : decode cX9_see 48 = .ok (.getfield 62, 3) := by decide +kernel
theorem dX9_see_51 : decode cX9_see 51 = .ok (.goto 19, 3) := by decide +kernel
theorem dX9_see_54 : decode cX9_see 54 = .ok (.iload_n 1, 1) := by decide +kernel
theorem dX9_see_55 : decode cX9_see 55 = .ok (.iconst 2, 1) := by decide +kernel
theorem dX9_see_56 : decode cX9_see 56 = .ok (.if_icmp .ne 10, 3) := by decide +kernel
theorem dX9_see_59 : decode cX9_see 59 = .ok (.aload_n 0, 1) := by decide +kernel
theorem dX9_see_60 : decode cX9_see 60 = .ok (.invokevirtual 212, 3) := by decide +kernel
theorem dX9_see_63 : decode cX9_see 63 = .ok (.goto 7, 3) := by decide +kernel
theorem dX9_see_66 : decode cX9_see 66 = .ok (.aload_n 0, 1) := by decide +kernel
theorem dX9_see_67 : decode cX9_see 67 = .ok (.getfield 135, 3) := by decide +kernel
theorem dX9_see_70 : decode cX9_see 70 = .ok (.invokevirtual 204, 3) := by decide +kernel
theorem dX9_see_73 : decode cX9_see 73 = .ok (.ireturn, 1) := by decide +kernel
set_option maxRecDepth 20000 in
theorem ggX9_swept_X9_in : GoodIn wsX9_swept wsX9_in := goodIn_r _ [6] rfl (by decide +kernel)
set_option maxRecDepth 20000 in
theorem gX9_swept_X9_in : GoodIn wsX9_swept (va_wsS RX9 71 yX9_in wsX9_in) := goodIn_app (goodIn_r _ [3, 4, 5] rfl (by decide +kernel)) ggX9_swept_X9_in
set_option maxRecDepth 20000 in
theorem ggX9_swept_X9_refusal : GoodIn wsX9_swept wsX9_refusal := goodIn_r _ [10, 11, 12, 13, 14, 5, 15, 16, 17, 18, 19, 20, 21, 22, 23, 24, 25, 26, 27, 28, 29, 30, 31, 32, 33, 34, 35, 36, 37, 38, 39, 40, 41, 42, 43, 44, 45, 3, 4, 6, 46, 47, 48, 49, 50, 51, 52, 53, 54, 55, 56, 57, 58, 59, 60, 61, 62, 63, 1, 2, 64, 65, 66, 67, 68, 69, 70, 71, 72, 73, 74, 75, 76, 77, 78, 79, 80, 81, 82, 83, 84, 85, 86, 87, 88, 89, 90, 91, 92, 93, 94, 95, 96, 97, 98, 99, 100, 101, 102, 103, 104, 105, 106, 107, 108, 109, 110, 111, 112, 113, 118, 119, 120, 121, 122, 123, 124, 125, 126, 127, 128, 129, 130, 131, 132, 133, 134, 135, 136, 137, 138, 139, 140, 141, 142, 143, 144, 145, 146, 147] rfl (by decide +kernel)
set_option maxRecDepth 20000 in
theorem gX9_swept_X9_refusal : GoodIn wsX9_swept (wsV RX9 201 RX9 yX9_refusal wsX9_refusal) := goodIn_app (goodIn_r _ [7, 8, 9, 5] rfl (by decide +kernel)) ggX9_swept_X9_refusal
set_option maxRecDepth 20000 in
theorem ggX9_swept_X9_back : GoodIn wsX9_swept wsX9_back := goodIn_r _ [117, 17, 16, 18, 19, 20, 21, 22, 118, 119, 120, 121, 122, 123, 124, 125, 126, 127, 128, 129, 130, 131, 132, 133, 134, 135, 136, 137, 138, 139, 140, 141, 142, 143, 144, 145, 146, 147] rfl (by decide +kernel)
set_option maxRecDepth 20000 in
theorem gX9_swept_X9_back : GoodIn wsX9_swept (wsV RX9 204 RX9 yX9_back wsX9_back) := goodIn_app (goodIn_r _ [114, 115, 116, 5] rfl (by decide +kernel)) ggX9_swept_X9_back
theorem dX9_swept_0 : decode cX9_swept 0 = .ok (.iload_n 1, 1) := by decide +kernel
theorem dX9_swept_1 : decode cX9_swept 1 = .ok (.i2l, 1) := by decide +kernel
theorem dX9_swept_2 : decode cX9_swept 2 = .ok (.lconst 0, 1) := by decide +kernel
theorem dX9_swept_3 : decode cX9_swept 3 = .ok (.lconst 1, 1) := by decide +kernel
theorem dX9_swept_4 : decode cX9_swept 4 = .ok (.invokestatic 71, 3) := by decide +kernel
theorem dX9_swept_7 : decode cX9_swept 7 = .ok (.ifCond .ne 6, 3) := by decide +kernel
theorem dX9_swept_10 : decode cX9_swept 10 = .ok (.bipush (-2), 2) := by decide +kernel
theorem dX9_swept_12 : decode cX9_swept 12 = .ok (.ireturn, 1) := by decide +kernel
theorem dX9_swept_13 : decode cX9_swept 13 = .ok (.aload_n 0, 1) := by decide +kernel
theorem dX9_swept_14 : decode cX9_swept 14 = .ok (.aload_n 0, 1) := by decide +kernel
theorem dX9_swept_15 : decode cX9_swept 15 = .ok (.invokevirtual 201, 3) := by decide +kernel
theorem dX9_swept_18 : decode cX9_swept 18 = .ok (.invokevirtual 204, 3) := by decide +kernel
theorem dX9_swept_21 : decode cX9_swept 21 = .ok (.istore_n 2, 1) := by decide +kernel
theorem dX9_swept_22 : decode cX9_swept 22 = .ok (.iload_n 2, 1) := by decide +kernel
theorem dX9_swept_23 : decode cX9_swept 23 = .ok (.bipush (-6), 2) := by decide +kernel
theorem dX9_swept_25 : decode cX9_swept 25 = .ok (.if_icmp .eq 7, 3) := by decide +kernel
theorem dX9_swept_28 : decode cX9_swept 28 = .ok (.iload_n 2, 1) := by decide +kernel
theorem dX9_swept_29 : decode cX9_swept 29 = .ok (.goto 18, 3) := by decide +kernel
theorem dX9_swept_32 : decode cX9_swept 32 = .ok (.iload_n 1, 1) := by decide +kernel
theorem dX9_swept_33 : decode cX9_swept 33 = .ok (.ifCond .ne 10, 3) := by decide +kernel
theorem dX9_swept_36 : decode cX9_swept 36 = .ok (.aload_n 0, 1) := by decide +kernel
theorem dX9_swept_37 : decode cX9_swept 37 = .ok (.getfield 170, 3) := by decide +kernel
theorem dX9_swept_40 : decode cX9_swept 40 = .ok (.goto 7, 3) := by decide +kernel
theorem dX9_swept_43 : decode cX9_swept 43 = .ok (.aload_n 0, 1) := by decide +kernel
theorem dX9_swept_44 : decode cX9_swept 44 = .ok (.getfield 173, 3) := by decide +kernel
theorem dX9_swept_47 : decode cX9_swept 47 = .ok (.ireturn, 1) := by decide +kernel
set_option maxRecDepth 20000 in
theorem ggX9_done_X9_refusal : GoodIn wsX9_done wsX9_refusal := goodIn_r _ [7, 8, 9, 10, 11, 6, 12, 13, 14, 15, 16, 17, 18, 19, 20, 21, 22, 23, 2, 1, 24, 25, 26, 27, 28, 29, 30, 31, 32, 33, 34, 35, 36, 37, 38, 39, 40, 41, 42, 43, 44, 45, 46, 47, 48, 49, 50, 51, 52, 53, 54, 55, 56, 57, 58, 59, 60, 61, 62, 63, 64, 65, 66, 67, 68, 69, 70, 71, 72, 73, 74, 75, 76, 77, 78, 79, 80, 81, 82, 83, 84, 85, 86, 87, 88, 89, 90, 91, 92, 93, 94, 95, 96, 97, 98, 99, 100, 101, 102, 103, 104, 105, 106, 107, 108, 109, 110, 111, 112, 113, 118, 119, 120, 121, 122, 123, 124, 125, 126, 127, 128, 129, 130, 131, 132, 133, 134, 135, 136, 137, 138, 139, 140, 141, 142, 143, 144, 145, 146, 147] rfl (by decide +kernel)
set_option maxRecDepth 20000 in
theorem gX9_done_X9_refusal : GoodIn wsX9_done (wsV RX9 201 RX9 yX9_refusal wsX9_refusal) := goodIn_app (goodIn_r _ [3, 4, 5, 6] rfl (by decide +kernel)) ggX9_done_X9_refusal
set_option maxRecDepth 20000 in
theorem ggX9_done_X9_back : GoodIn wsX9_done wsX9_back := goodIn_r _ [117, 14, 13, 15, 16, 17, 18, 19, 118, 119, 120, 121, 122, 123, 124, 125, 126, 127, 128, 129, 130, 131, 132, 133, 134, 135, 136, 137, 138, 139, 140, 141, 142, 143, 144, 145, 146, 147] rfl (by decide +kernel)
set_option maxRecDepth 20000 in
theorem gX9_done_X9_back : GoodIn wsX9_done (wsV RX9 204 RX9 yX9_back wsX9_back) := goodIn_app (goodIn_r _ [114, 115, 116, 6] rfl (by decide +kernel)) ggX9_done_X9_back
theorem dX9_done_0 : decode cX9_done 0 = .ok (.aload_n 0, 1) := by decide +kernel
theorem dX9_done_1 : decode cX9_done 1 = .ok (.invokevirtual 201, 3) := by decide +kernel
theorem dX9_done_4 : decode cX9_done 4 = .ok (.istore_n 1, 1) := by decide +kernel
theorem dX9_done_5 : decode cX9_done 5 = .ok (.iload_n 1, 1) := by decide +kernel
theorem dX9_done_6 : decode cX9_done 6 = .ok (.bipush (-6), 2) := by decide +kernel
theorem dX9_done_8 : decode cX9_done 8 = .ok (.if_icmp .eq 9, 3) := by decide +kernel
theorem dX9_done_11 : decode cX9_done 11 = .ok (.aload_n 0, 1) := by decide +kernel
theorem dX9_done_12 : decode cX9_done 12 = .ok (.iload_n 1, 1) := by decide +kernel
theorem dX9_done_13 : decode cX9_done 13 = .ok (.invokevirtual 204, 3) := by decide +kernel
theorem dX9_done_16 : decode cX9_done 16 = .ok (.ireturn, 1) := by decide +kernel
theorem dX9_done_17 : decode cX9_done 17 = .ok (.aload_n 0, 1) := by decide +kernel
theorem dX9_done_18 : decode cX9_done 18 = .ok (.iconst 0, 1) := by decide +kernel
theorem dX9_done_19 : decode cX9_done 19 = .ok (.putfield 101, 3) := by decide +kernel
theorem dX9_done_22 : decode cX9_done 22 = .ok (.aload_n 0, 1) := by decide +kernel
theorem dX9_done_23 : decode cX9_done 23 = .ok (.getfield 104, 3) := by decide +kernel
theorem dX9_done_26 : decode cX9_done 26 = .ok (.ireturn, 1) := by decide +kernel
set_option maxRecDepth 20000 in
theorem ggX9_unlike_X9_ones : GoodIn wsX9_unlike wsX9_ones := goodIn_r _ [5] rfl (by decide +kernel)
set_option maxRecDepth 20000 in
theorem gX9_unlike_X9_ones : GoodIn wsX9_unlike (va_wsS RX9 83 yX9_ones wsX9_ones) := goodIn_app (goodIn_r _ [2, 3, 4] rfl (by decide +kernel)) ggX9_unlike_X9_ones
theorem dX9_unlike_0 : decode cX9_unlike 0 = .ok (.aload_n 0, 1) := by decide +kernel
theorem dX9_unlike_1 : decode cX9_unlike 1 = .ok (.getfield 13, 3) := by decide +kernel
theorem dX9_unlike_4 : decode cX9_unlike 4 = .ok (.iload_n 1, 1) := by decide +kernel
theorem dX9_unlike_5 : decode cX9_unlike 5 = .ok (.iaload, 1) := by decide +kernel
theorem dX9_unlike_6 : decode cX9_unlike 6 = .ok (.aload_n 0, 1) := by decide +kernel
theorem dX9_unlike_7 : decode cX9_unlike 7 = .ok (.getfield 13, 3) := by decide +kernel
theorem dX9_unlike_10 : decode cX9_unlike 10 = .ok (.iload_n 2, 1) := by decide +kernel
theorem dX9_unlike_11 : decode cX9_unlike 11 = .ok (.iaload, 1) := by decide +kernel
theorem dX9_unlike_12 : decode cX9_unlike 12 = .ok (.ixor, 1) := by decide +kernel
theorem dX9_unlike_13 : decode cX9_unlike 13 = .ok (.invokestatic 83, 3) := by decide +kernel
theorem dX9_unlike_16 : decode cX9_unlike 16 = .ok (.ireturn, 1) := by decide +kernel
set_option maxRecDepth 20000 in
theorem ggX9_borders_X9_has : GoodIn wsX9_borders wsX9_has := goodIn_r _ [6] rfl (by decide +kernel)
set_option maxRecDepth 20000 in
theorem gX9_borders_X9_has : GoodIn wsX9_borders (va_wsS RX9 87 yX9_has wsX9_has) := goodIn_app (goodIn_r _ [3, 4, 5] rfl (by decide +kernel)) ggX9_borders_X9_has
set_option maxRecDepth 20000 in
theorem ggX9_borders_X9_unlike : GoodIn wsX9_borders wsX9_unlike := goodIn_r _ [10, 11, 12, 13, 5, 14, 15, 16, 17, 18, 19, 20, 21, 22, 23, 24, 25, 26, 27, 28, 29, 30, 31, 32, 33, 34, 35, 36, 37, 38, 39, 40, 41, 42, 43, 44] rfl (by decide +kernel)
set_option maxRecDepth 20000 in
theorem gX9_borders_X9_unlike : GoodIn wsX9_borders (wsV RX9 215 RX9 yX9_unlike wsX9_unlike) := goodIn_app (goodIn_r _ [7, 8, 9, 5] rfl (by decide +kernel)) ggX9_borders_X9_unlike
theorem dX9_borders_0 : decode cX9_borders 0 = .ok (.bipush (-6), 2) := by decide +kernel
theorem dX9_borders_2 : decode cX9_borders 2 = .ok (.istore_n 1, 1) := by decide +kernel
theorem dX9_borders_3 : decode cX9_borders 3 = .ok (.iconst 0, 1) := by decide +kernel
theorem dX9_borders_4 : decode cX9_borders 4 = .ok (.istore_n 2, 1) := by decide +kernel
theorem dX9_borders_5 : decode cX9_borders 5 = .ok (.iconst 0, 1) := by decide +kernel
theorem dX9_borders_6 : decode cX9_borders 6 = .ok (.istore_n 3, 1) := by decide +kernel
theorem dX9_borders_7 : decode cX9_borders 7 = .ok (.iload_n 3, 1) := by decide +kernel
theorem dX9_borders_8 : decode cX9_borders 8 = .ok (.bipush 10, 2) := by decide +kernel
theorem dX9_borders_10 : decode cX9_borders 10 = .ok (.if_icmp .ge 96, 3) := by decide +kernel
theorem dX9_borders_13 : decode cX9_borders 13 = .ok (.bipush (-6), 2) := by decide +kernel
theorem dX9_borders_15 : decode cX9_borders 15 = .ok (.istore 4, 2) := by decide +kernel
theorem dX9_borders_17 : decode cX9_borders 17 = .ok (.iconst 0, 1) := by decide +kernel
theorem dX9_borders_18 : decode cX9_borders 18 = .ok (.istore 5, 2) := by decide +kernel
theorem dX9_borders_20 : decode cX9_borders 20 = .ok (.iload 5, 2) := by decide +kernel
theorem dX9_borders_22 : decode cX9_borders 22 = .ok (.bipush 10, 2) := by decide +kernel
theorem dX9_borders_24 : decode cX9_borders 24 = .ok (.if_icmp .ge 41, 3) := by decide +kernel
theorem dX9_borders_27 : decode cX9_borders 27 = .ok (.aload_n 0, 1) := by decide +kernel
theorem dX9_borders_28 : decode cX9_borders 28 = .ok (.getfield 16, 3) := by decide +kernel
theorem dX9_borders_31 : decode cX9_borders 31 = .ok (.iload 5, 2) := by decide +kernel
theorem dX9_borders_33 : decode cX9_borders 33 = .ok (.iaload, 1) := by decide +kernel
theorem dX9_borders_34 : decode cX9_borders 34 = .ok (.iload_n 3, 1) := by decide +kernel
theorem dX9_borders_35 : decode cX9_borders 35 = .ok (.if_icmp .ne 20, 3) := by decide +kernel
theorem dX9_borders_38 : decode cX9_borders 38 = .ok (.aload_n 0, 1) := by decide +kernel
theorem dX9_borders_39 : decode cX9_borders 39 = .ok (.getfield 62, 3) := by decide +kernel
theorem dX9_borders_42 : decode cX9_borders 42 = .ok (.iload 5, 2) := by decide +kernel
theorem dX9_borders_44 : decode cX9_borders 44 = .ok (.invokestatic 87, 3) := by decide +kernel
theorem dX9_borders_47 : decode cX9_borders 47 = .ok (.ifCond .eq 8, 3) := by decide +kernel
theorem dX9_borders_50 : decode cX9_borders 50 = .ok (.iload 5, 2) := by decide +kernel
theorem dX9_borders_52 : decode cX9_borders 52 = .ok (.goto 5, 3) := by decide +kernel
theorem dX9_borders_55 : decode cX9_borders 55 = .ok (.iload 4, 2) := by decide +kernel
theorem dX9_borders_57 : decode cX9_borders 57 = .ok (.istore 4, 2) := by decide +kernel
theorem dX9_borders_59 : decode cX9_borders 59 = .ok (.iinc 5 1, 3) := by decide +kernel
theorem dX9_borders_62 : decode cX9_borders 62 = .ok (.goto (-42), 3) := by decide +kernel
theorem dX9_borders_65 : decode cX9_borders 65 = .ok (.iload_n 2, 1) := by decide +kernel
theorem dX9_borders_66 : decode cX9_borders 66 = .ok (.iload 4, 2) := by decide +kernel
theorem dX9_borders_68 : decode cX9_borders 68 = .ok (.ifCond .lt 17, 3) := by decide +kernel
theorem dX9_borders_71 : decode cX9_borders 71 = .ok (.iload_n 1, 1) := by decide +kernel
theorem dX9_borders_72 : decode cX9_borders 72 = .ok (.ifCond .lt 13, 3) := by decide +kernel
theorem dX9_borders_75 : decode cX9_borders 75 = .ok (.aload_n 0, 1) := by decide +kernel
theorem dX9_borders_76 : decode cX9_borders 76 = .ok (.iload 4, 2) := by decide +kernel
theorem dX9_borders_78 : decode cX9_borders 78 = .ok (.iload_n 1, 1) := by decide +kernel
theorem dX9_borders_79 : decode cX9_borders 79 = .ok (.invokevirtual 215, 3) := by decide +kernel
theorem dX9_borders_82 : decode cX9_borders 82 = .ok (.goto 4, 3) := by decide +kernel
theorem dX9_borders_85 : decode cX9_borders 85 = .ok (.iconst 0, 1) := by decide +kernel
theorem dX9_borders_86 : decode cX9_borders 86 = .ok (.iadd, 1) := by decide +kernel
theorem dX9_borders_87 : decode cX9_borders 87 = .ok (.istore_n 2, 1) := by decide +kernel
theorem dX9_borders_88 : decode cX9_borders 88 = .ok (.iload 4, 2) := by decide +kernel
theorem dX9_borders_90 : decode cX9_borders 90 = .ok (.ifCond .lt 8, 3) := by decide +kernel
theorem dX9_borders_93 : decode cX9_borders 93 = .ok (.iload 4, 2) := by decide +kernel
theorem dX9_borders_95 : decode cX9_borders 95 = .ok (.goto 4, 3) := by decide +kernel
theorem dX9_borders_98 : decode cX9_borders 98 = .ok (.iload_n 1, 1) := by decide +kernel
theorem dX9_borders_99 : decode cX9_borders 99 = .ok (.istore_n 1, 1) := by decide +kernel
theorem dX9_borders_100 : decode cX9_borders 100 = .ok (.iinc 3 1, 3) := by decide +kernel
theorem dX9_borders_103 : decode cX9_borders 103 = .ok (.goto (-96), 3) := by decide +kernel
theorem dX9_borders_106 : decode cX9_borders 106 = .ok (.iload_n 2, 1) := by decide +kernel
theorem dX9_borders_107 : decode cX9_borders 107 = .ok (.ireturn, 1) := by decide +kernel
set_option maxRecDepth 20000 in
theorem ggX9_rowFrom_X9_has : GoodIn wsX9_rowFrom wsX9_has := goodIn_r _ [5] rfl (by decide +kernel)
set_option maxRecDepth 20000 in
theorem gX9_rowFrom_X9_has : GoodIn wsX9_rowFrom (va_wsS RX9 87 yX9_has wsX9_has) := goodIn_app (goodIn_r _ [2, 3, 4] rfl (by decide +kernel)) ggX9_rowFrom_X9_has
set_option maxRecDepth 20000 in
theorem ggX9_rowFrom_X9_unlike : GoodIn wsX9_rowFrom wsX9_unlike := goodIn_r _ [9, 10, 11, 12, 4, 13, 17, 18, 19, 20, 21, 22, 23, 24, 25, 26, 27, 28, 29, 30, 31, 32, 33, 34, 35, 36, 37, 38, 39, 40, 41, 42, 43, 44, 45, 46] rfl (by decide +kernel)
set_option maxRecDepth 20000 in
theorem gX9_rowFrom_X9_unlike : GoodIn wsX9_rowFrom (wsV RX9 215 RX9 yX9_unlike wsX9_unlike) := goodIn_app (goodIn_r _ [6, 7, 8, 4] rfl (by decide +kernel)) ggX9_rowFrom_X9_unlike
set_option maxRecDepth 20000 in
theorem ggX9_rowFrom_X9_less : GoodIn wsX9_rowFrom wsX9_less := goodIn_r _ [16] rfl (by decide +kernel)
set_option maxRecDepth 20000 in
theorem gX9_rowFrom_X9_less : GoodIn wsX9_rowFrom (va_wsS RX9 141 yX9_less wsX9_less) := goodIn_app (goodIn_r _ [14, 15, 4] rfl (by decide +kernel)) ggX9_rowFrom_X9_less
theorem dX9_rowFrom_0 : decode cX9_rowFrom 0 = .ok (.iload_n 1, 1) := by decide +kernel
theorem dX9_rowFrom_1 : decode cX9_rowFrom 1 = .ok (.iconst 1, 1) := by decide +kernel
theorem dX9_rowFrom_2 : decode cX9_rowFrom 2 = .ok (.iload_n 2, 1) := by decide +kernel
theorem dX9_rowFrom_3 : decode cX9_rowFrom 3 = .ok (.ishl, 1) := by decide +kernel
theorem dX9_rowFrom_4 : decode cX9_rowFrom 4 = .ok (.iconst (-1), 1) := by decide +kernel
theorem dX9_rowFrom_5 : decode cX9_rowFrom 5 = .ok (.ixor, 1) := by decide +kernel
theorem dX9_rowFrom_6 : decode cX9_rowFrom 6 = .ok (.iand, 1) := by decide +kernel
theorem dX9_rowFrom_7 : decode cX9_rowFrom 7 = .ok (.istore_n 3, 1) := by decide +kernel
theorem dX9_rowFrom_8 : decode cX9_rowFrom 8 = .ok (.iload_n 3, 1) := by decide +kernel
theorem dX9_rowFrom_9 : decode cX9_rowFrom 9 = .ok (.ifCond .ne 7, 3) := by decide +kernel
theorem dX9_rowFrom_12 : decode cX9_rowFrom 12 = .ok (.iconst 0, 1) := by decide +kernel
theorem dX9_rowFrom_13 : decode cX9_rowFrom 13 = .ok (.goto 6, 3) := by decide +kernel
theorem dX9_rowFrom_16 : decode cX9_rowFrom 16 = .ok (.sipush 9999, 3) := by decide +kernel
theorem dX9_rowFrom_19 : decode cX9_rowFrom 19 = .ok (.istore 4, 2) := by decide +kernel
theorem dX9_rowFrom_21 : decode cX9_rowFrom 21 = .ok (.iconst 0, 1) := by decide +kernel
theorem dX9_rowFrom_22 : decode cX9_rowFrom 22 = .ok (.istore 5, 2) := by decide +kernel
theorem dX9_rowFrom_24 : decode cX9_rowFrom 24 = .ok (.iload 5, 2) := by decide +kernel
theorem dX9_rowFrom_26 : decode cX9_rowFrom 26 = .ok (.bipush 10, 2) := by decide +kernel
theorem dX9_rowFrom_28 : decode cX9_rowFrom 28 = .ok (.if_icmp .ge 50, 3) := by decide +kernel
theorem dX9_rowFrom_31 : decode cX9_rowFrom 31 = .ok (.iload_n 3, 1) := by decide +kernel
theorem dX9_rowFrom_32 : decode cX9_rowFrom 32 = .ok (.iload 5, 2) := by decide +kernel
theorem dX9_rowFrom_34 : decode cX9_rowFrom 34 = .ok (.invokestatic 87, 3) := by decide +kernel
theorem dX9_rowFrom_37 : decode cX9_rowFrom 37 = .ok (.ifCond .eq 31, 3) := by decide +kernel
theorem dX9_rowFrom_40 : decode cX9_rowFrom 40 = .ok (.iload 4, 2) := by decide +kernel
theorem dX9_rowFrom_42 : decode cX9_rowFrom 42 = .ok (.aload_n 0, 1) := by decide +kernel
theorem dX9_rowFrom_43 : decode cX9_rowFrom 43 = .ok (.iload_n 2, 1) := by decide +kernel
theorem dX9_rowFrom_44 : decode cX9_rowFrom 44 = .ok (.iload 5, 2) := by decide +kernel
theorem dX9_rowFrom_46 : decode cX9_rowFrom 46 = .ok (.invokevirtual 215, 3) := by decide +kernel
theorem dX9_rowFrom_49 : decode cX9_rowFrom 49 = .ok (.aload_n 0, 1) := by decide +kernel
theorem dX9_rowFrom_50 : decode cX9_rowFrom 50 = .ok (.getfield 40, 3) := by decide +kernel
theorem dX9_rowFrom_53 : decode cX9_rowFrom 53 = .ok (.bipush 10, 2) := by decide +kernel
theorem dX9_rowFrom_55 : decode cX9_rowFrom 55 = .ok (.iload_n 3, 1) := by decide +kernel
theorem dX9_rowFrom_56 : decode cX9_rowFrom 56 = .ok (.imul, 1) := by decide +kernel
theorem dX9_rowFrom_57 : decode cX9_rowFrom 57 = .ok (.iload 5, 2) := by decide +kernel
theorem dX9_rowFrom_59 : decode cX9_rowFrom 59 = .ok (.iadd, 1) := by decide +kernel
theorem dX9_rowFrom_60 : decode cX9_rowFrom 60 = .ok (.iaload, 1) := by decide +kernel
theorem dX9_rowFrom_61 : decode cX9_rowFrom 61 = .ok (.iadd, 1) := by decide +kernel
theorem dX9_rowFrom_62 : decode cX9_rowFrom 62 = .ok (.invokestatic 141, 3) := by decide +kernel
theorem dX9_rowFrom_65 : decode cX9_rowFrom 65 = .ok (.goto 5, 3) := by decide +kernel
theorem dX9_rowFrom_68 : decode cX9_rowFrom 68 = .ok (.iload 4, 2) := by decide +kernel
theorem dX9_rowFrom_70 : decode cX9_rowFrom 70 = .ok (.istore 4, 2) := by decide +kernel
theorem dX9_rowFrom_72 : decode cX9_rowFrom 72 = .ok (.iinc 5 1, 3) := by decide +kernel
theorem dX9_rowFrom_75 : decode cX9_rowFrom 75 = .ok (.goto (-51), 3) := by decide +kernel
theorem dX9_rowFrom_78 : decode cX9_rowFrom 78 = .ok (.iload 4, 2) := by decide +kernel
theorem dX9_rowFrom_80 : decode cX9_rowFrom 80 = .ok (.ireturn, 1) := by decide +kernel
set_option maxRecDepth 20000 in
theorem ggX9_row_X9_in : GoodIn wsX9_row wsX9_in := goodIn_r _ [6] rfl (by decide +kernel)
set_option maxRecDepth 20000 in
theorem gX9_row_X9_in : GoodIn wsX9_row (va_wsS RX9 71 yX9_in wsX9_in) := goodIn_app (goodIn_r _ [3, 4, 5] rfl (by decide +kernel)) ggX9_row_X9_in
set_option maxRecDepth 20000 in
theorem ggX9_row_X9_has : GoodIn wsX9_row wsX9_has := goodIn_r _ [9] rfl (by decide +kernel)
set_option maxRecDepth 20000 in
theorem gX9_row_X9_has : GoodIn wsX9_row (va_wsS RX9 87 yX9_has wsX9_has) := goodIn_app (goodIn_r _ [7, 8, 5] rfl (by decide +kernel)) ggX9_row_X9_has
set_option maxRecDepth 20000 in
theorem ggX9_row_X9_rowFrom : GoodIn wsX9_row wsX9_rowFrom := goodIn_r _ [13, 2, 7, 8, 5, 9, 14, 15, 16, 17, 18, 19, 20, 21, 22, 23, 24, 25, 26, 27, 28, 29, 30, 31, 32, 33, 34, 35, 36, 37, 38, 39, 40, 41, 42, 43, 44, 45, 46, 47, 48, 49, 50, 51, 52, 53, 54] rfl (by decide +kernel)
set_option maxRecDepth 20000 in
theorem gX9_row_X9_rowFrom : GoodIn wsX9_row (wsV RX9 218 RX9 yX9_rowFrom wsX9_rowFrom) := goodIn_app (goodIn_r _ [10, 11, 12, 5] rfl (by decide +kernel)) ggX9_row_X9_rowFrom
theorem dX9_row_0 : decode cX9_row 0 = .ok (.iload_n 1, 1) := by decide +kernel
theorem dX9_row_1 : decode cX9_row 1 = .ok (.i2l, 1) := by decide +kernel
theorem dX9_row_2 : decode cX9_row 2 = .ok (.lconst 0, 1) := by decide +kernel
theorem dX9_row_3 : decode cX9_row 3 = .ok (.lconst 1, 1) := by decide +kernel
theorem dX9_row_4 : decode cX9_row 4 = .ok (.invokestatic 71, 3) := by decide +kernel
theorem dX9_row_7 : decode cX9_row 7 = .ok (.ifCond .ne 6, 3) := by decide +kernel
theorem dX9_row_10 : decode cX9_row 10 = .ok (.bipush (-2), 2) := by decide +kernel
theorem dX9_row_12 : decode cX9_row 12 = .ok (.ireturn, 1) := by decide +kernel
theorem dX9_row_13 : decode cX9_row 13 = .ok (.iconst 1, 1) := by decide +kernel
theorem dX9_row_14 : decode cX9_row 14 = .ok (.istore_n 2, 1) := by decide +kernel
theorem dX9_row_15 : decode cX9_row 15 = .ok (.iload_n 2, 1) := by decide +kernel
theorem dX9_row_16 : decode cX9_row 16 = .ok (.aload_n 0, 1) := by decide +kernel
theorem dX9_row_17 : decode cX9_row 17 = .ok (.getfield 62, 3) := by decide +kernel
theorem dX9_row_20 : decode cX9_row 20 = .ok (.if_icmp .gt 54, 3) := by decide +kernel
theorem dX9_row_23 : decode cX9_row 23 = .ok (.iconst 0, 1) := by decide +kernel
theorem dX9_row_24 : decode cX9_row 24 = .ok (.istore_n 3, 1) := by decide +kernel
theorem dX9_row_25 : decode cX9_row 25 = .ok (.iload_n 3, 1) := by decide +kernel
theorem dX9_row_26 : decode cX9_row 26 = .ok (.bipush 10, 2) := by decide +kernel
theorem dX9_row_28 : decode cX9_row 28 = .ok (.if_icmp .ge 40, 3) := by decide +kernel
theorem dX9_row_31 : decode cX9_row 31 = .ok (.aload_n 0, 1) := by decide +kernel
theorem dX9_row_32 : decode cX9_row 32 = .ok (.getfield 40, 3) := by decide +kernel
theorem dX9_row_35 : decode cX9_row 35 = .ok (.bipush 10, 2) := by decide +kernel
theorem dX9_row_37 : decode cX9_row 37 = .ok (.iload_n 2, 1) := by decide +kernel
theorem dX9_row_38 : decode cX9_row 38 = .ok (.imul, 1) := by decide +kernel
theorem dX9_row_39 : decode cX9_row 39 = .ok (.iload_n 3, 1) := by decide +kernel
theorem dX9_row_40 : decode cX9_row 40 = .ok (.iadd, 1) := by decide +kernel
theorem dX9_row_41 : decode cX9_row 41 = .ok (.iload_n 2, 1) := by decide +kernel
theorem dX9_row_42 : decode cX9_row 42 = .ok (.iload_n 3, 1) := by decide +kernel
theorem dX9_row_43 : decode cX9_row 43 = .ok (.invokestatic 87, 3) := by decide +kernel
theorem dX9_row_46 : decode cX9_row 46 = .ok (.ifCond .eq 12, 3) := by decide +kernel
theorem dX9_row_49 : decode cX9_row 49 = .ok (.aload_n 0, 1) := by decide +kernel
theorem dX9_row_50 : decode cX9_row 50 = .ok (.iload_n 2, 1) := by decide +kernel
theorem dX9_row_51 : decode cX9_row 51 = .ok (.iload_n 3, 1) := by decide +kernel
theorem dX9_row_52 : decode cX9_row 52 = .ok (.invokevirtual 218, 3) := by decide +kernel
theorem dX9_row_55 : decode cX9_row 55 = .ok (.goto 6, 3) := by decide +kernel
theorem dX9_row_58 : decode cX9_row 58 = .ok (.sipush 9999, 3) := by decide +kernel
theorem dX9_row_61 : decode cX9_row 61 = .ok (.iastore, 1) := by decide +kernel
theorem dX9_row_62 : decode cX9_row 62 = .ok (.iinc 3 1, 3) := by decide +kernel
theorem dX9_row_65 : decode cX9_row 65 = .ok (.goto (-40), 3) := by decide +kernel
theorem dX9_row_68 : decode cX9_row 68 = .ok (.iinc 2 1, 3) := by decide +kernel
theorem dX9_row_71 : decode cX9_row 71 = .ok (.goto (-56), 3) := by decide +kernel
theorem dX9_row_74 : decode cX9_row 74 = .ok (.bipush (-6), 2) := by decide +kernel
theorem dX9_row_76 : decode cX9_row 76 = .ok (.istore_n 2, 1) := by decide +kernel
theorem dX9_row_77 : decode cX9_row 77 = .ok (.bipush 9, 2) := by decide +kernel
theorem dX9_row_79 : decode cX9_row 79 = .ok (.istore_n 3, 1) := by decide +kernel
theorem dX9_row_80 : decode cX9_row 80 = .ok (.iload_n 3, 1) := by decide +kernel
theorem dX9_row_81 : decode cX9_row 81 = .ok (.ifCond .lt 73, 3) := by decide +kernel
theorem dX9_row_84 : decode cX9_row 84 = .ok (.aload_n 0, 1) := by decide +kernel
theorem dX9_row_85 : decode cX9_row 85 = .ok (.getfield 62, 3) := by decide +kernel
theorem dX9_row_88 : decode cX9_row 88 = .ok (.iload_n 3, 1) := by decide +kernel
theorem dX9_row_89 : decode cX9_row 89 = .ok (.invokestatic 87, 3) := by decide +kernel
theorem dX9_row_92 : decode cX9_row 92 = .ok (.ifCond .eq 42, 3) := by decide +kernel
theorem dX9_row_95 : decode cX9_row 95 = .ok (.iload_n 2, 1) := by decide +kernel
theorem dX9_row_96 : decode cX9_row 96 = .ok (.ifCond .lt 34, 3) := by decide +kernel
theorem dX9_row_99 : decode cX9_row 99 = .ok (.aload_n 0, 1) := by decide +kernel
theorem dX9_row_100 : decode cX9_row 100 = .ok (.getfield 40, 3) := by decide +kernel
theorem dX9_row_103 : decode cX9_row 103 = .ok (.bipush 10, 2) := by decide +kernel
theorem dX9_row_105 : decode cX9_row 105 = .ok (.aload_n 0, 1) := by decide +kernel
theorem dX9_row_106 : decode cX9_row 106 = .ok (.getfield 62, 3) := by decide +kernel
theorem dX9_row_109 : decode cX9_row 109 = .ok (.imul, 1) := by decide +kernel
theorem dX9_row_110 : decode cX9_row 110 = .ok (.iload_n 3, 1) := by decide +kernel
theorem dX9_row_111 : decode cX9_row 111 = .ok (.iadd, 1) := by decide +kernel
theorem dX9_row_112 : decode cX9_row 112 = .ok (.iaload, 1) := by decide +kernel
theorem dX9_row_113 : decode cX9_row 113 = .ok (.aload_n 0, 1) := by decide +kernel
theorem dX9_row_114 : decode cX9_row 114 = .ok (.getfield 40, 3) := by decide +kernel
theorem dX9_row_117 : decode cX9_row 117 = .ok (.bipush 10, 2) := by decide +kernel
theorem dX9_row_119 : decode cX9_row 119 = .ok (.aload_n 0, 1) := by decide +kernel
theorem dX9_row_120 : decode cX9_row 120 = .ok (.getfield 62, 3) := by decide +kernel
theorem dX9_row_123 : decode cX9_row 123 = .ok (.imul, 1) := by decide +kernel
theorem dX9_row_124 : decode cX9_row 124 = .ok (.iload_n 2, 1) := by decide +kernel
theorem dX9_row_125 : decode cX9_row 125 = .ok (.iadd, 1) := by decide +kernel
theorem dX9_row_126 : decode cX9_row 126 = .ok (.iaload, 1) := by decide +kernel
theorem dX9_row_127 : decode cX9_row 127 = .ok (.if_icmp .gt 7, 3) := by decide +kernel
theorem dX9_row_130 : decode cX9_row 130 = .ok (.iconst 1, 1) := by decide +kernel
theorem dX9_row_131 : decode cX9_row 131 = .ok (.goto 4, 3) := by decide +kernel
theorem dX9_row_134 : decode cX9_row 134 = .ok (.iconst 0, 1) := by decide +kernel
theorem dX9_row_135 : decode cX9_row 135 = .ok (.istore 4, 2) := by decide +kernel
theorem dX9_row_137 : decode cX9_row 137 = .ok (.iload 4, 2) := by decide +kernel
theorem dX9_row_139 : decode cX9_row 139 = .ok (.ifCond .eq 7, 3) := by decide +kernel
theorem dX9_row_142 : decode cX9_row 142 = .ok (.iload_n 3, 1) := by decide +kernel
theorem dX9_row_143 : decode cX9_row 143 = .ok (.goto 4, 3) := by decide +kernel
theorem dX9_row_146 : decode cX9_row 146 = .ok (.iload_n 2, 1) := by decide +kernel
theorem dX9_row_147 : decode cX9_row 147 = .ok (.istore_n 2, 1) := by decide +kernel
theorem dX9_row_148 : decode cX9_row 148 = .ok (.iinc 3 (-1), 3) := by decide +kernel
theorem dX9_row_151 : decode cX9_row 151 = .ok (.goto (-71), 3) := by decide +kernel
theorem dX9_row_154 : decode cX9_row 154 = .ok (.iload_n 1, 1) := by decide +kernel
theorem dX9_row_155 : decode cX9_row 155 = .ok (.iconst 1, 1) := by decide +kernel
theorem dX9_row_156 : decode cX9_row 156 = .ok (.if_icmp .ne 7, 3) := by decide +kernel
theorem dX9_row_159 : decode cX9_row 159 = .ok (.iload_n 2, 1) := by decide +kernel
theorem dX9_row_160 : decode cX9_row 160 = .ok (.goto 25, 3) := by decide +kernel
theorem dX9_row_163 : decode cX9_row 163 = .ok (.iload_n 2, 1) := by decide +kernel
theorem dX9_row_164 : decode cX9_row 164 = .ok (.ifCond .ge 7, 3) := by decide +kernel
theorem dX9_row_167 : decode cX9_row 167 = .ok (.iconst 0, 1) := by decide +kernel
theorem dX9_row_168 : decode cX9_row 168 = .ok (.goto 17, 3) := by decide +kernel
theorem dX9_row_171 : decode cX9_row 171 = .ok (.aload_n 0, 1) := by decide +kernel
theorem dX9_row_172 : decode cX9_row 172 = .ok (.getfield 40, 3) := by decide +kernel
theorem dX9_row_175 : decode cX9_row 175 = .ok (.bipush 10, 2) := by decide +kernel
theorem dX9_row_177 : decode cX9_row 177 = .ok (.aload_n 0, 1) := by decide +kernel
theorem dX9_row_178 : decode cX9_row 178 = .ok (.getfield 62, 3) := by decide +kernel
theorem dX9_row_181 : decode cX9_row 181 = .ok (.imul, 1) := by decide +kernel
theorem dX9_row_182 : decode cX9_row 182 = .ok (.iload_n 2, 1) := by decide +kernel
theorem dX9_row_183 : decode cX9_row 183 = .ok (.iadd, 1) := by decide +kernel
theorem dX9_row_184 : decode cX9_row 184 = .ok (.iaload, 1) := by decide +kernel
theorem dX9_row_185 : decode cX9_row 185 = .ok (.ireturn, 1) := by decide +kernel
set_option maxRecDepth 20000 in
theorem ggX9_isCover_X9_has : GoodIn wsX9_isCover wsX9_has := goodIn_r _ [5] rfl (by decide +kernel)
set_option maxRecDepth 20000 in
theorem gX9_isCover_X9_has : GoodIn wsX9_isCover (va_wsS RX9 87 yX9_has wsX9_has) := goodIn_app (goodIn_r _ [2, 3, 4] rfl (by decide +kernel)) ggX9_isCover_X9_has
theorem dX9_isCover_0 : decode cX9_isCover 0 = .ok (.iconst 0, 1) := by decide +kernel
theorem dX9_isCover_1 : decode cX9_isCover 1 = .ok (.istore_n 3, 1) := by decide +kernel
theorem dX9_isCover_2 : decode cX9_isCover 2 = .ok (.iconst 0, 1) := by decide +kernel
theorem dX9_isCover_3 : decode cX9_isCover 3 = .ok (.istore 4, 2) := by decide +kernel
theorem dX9_isCover_5 : decode cX9_isCover 5 = .ok (.iload 4, 2) := by decide +kernel
theorem dX9_isCover_7 : decode cX9_isCover 7 = .ok (.bipush 10, 2) := by decide +kernel
theorem dX9_isCover_9 : decode cX9_isCover 9 = .ok (.if_icmp .ge 32, 3) := by decide +kernel
theorem dX9_isCover_12 : decode cX9_isCover 12 = .ok (.iload_n 3, 1) := by decide +kernel
theorem dX9_isCover_13 : decode cX9_isCover 13 = .ok (.iload_n 1, 1) := by decide +kernel
theorem dX9_isCover_14 : decode cX9_isCover 14 = .ok (.iload 4, 2) := by decide +kernel
theorem dX9_isCover_16 : decode cX9_isCover 16 = .ok (.invokestatic 87, 3) := by decide +kernel
theorem dX9_isCover_19 : decode cX9_isCover 19 = .ok (.ifCond .eq 13, 3) := by decide +kernel
theorem dX9_isCover_22 : decode cX9_isCover 22 = .ok (.aload_n 0, 1) := by decide +kernel
theorem dX9_isCover_23 : decode cX9_isCover 23 = .ok (.getfield 13, 3) := by decide +kernel
theorem dX9_isCover_26 : decode cX9_isCover 26 = .ok (.iload 4, 2) := by decide +kernel
theorem dX9_isCover_28 : decode cX9_isCover 28 = .ok (.iaload, 1) := by decide +kernel
theorem dX9_isCover_29 : decode cX9_isCover 29 = .ok (.goto 4, 3) := by decide +kernel
theorem dX9_isCover_32 : decode cX9_isCover 32 = .ok (.iconst 0, 1) := by decide +kernel
theorem dX9_isCover_33 : decode cX9_isCover 33 = .ok (.ior, 1) := by decide +kernel
theorem dX9_isCover_34 : decode cX9_isCover 34 = .ok (.istore_n 3, 1) := by decide +kernel
theorem dX9_isCover_35 : decode cX9_isCover 35 = .ok (.iinc 4 1, 3) := by decide +kernel
theorem dX9_isCover_38 : decode cX9_isCover 38 = .ok (.goto (-33), 3) := by decide +kernel
theorem dX9_isCover_41 : decode cX9_isCover 41 = .ok (.iload_n 2, 1) := by decide +kernel
theorem dX9_isCover_42 : decode cX9_isCover 42 = .ok (.iload_n 3, 1) := by decide +kernel
theorem dX9_isCover_43 : decode cX9_isCover 43 = .ok (.iconst (-1), 1) := by decide +kernel
theorem dX9_isCover_44 : decode cX9_isCover 44 = .ok (.ixor, 1) := by decide +kernel
theorem dX9_isCover_45 : decode cX9_isCover 45 = .ok (.iand, 1) := by decide +kernel
theorem dX9_isCover_46 : decode cX9_isCover 46 = .ok (.ifCond .ne 7, 3) := by decide +kernel
theorem dX9_isCover_49 : decode cX9_isCover 49 = .ok (.iconst 1, 1) := by decide +kernel
theorem dX9_isCover_50 : decode cX9_isCover 50 = .ok (.goto 4, 3) := by decide +kernel
theorem dX9_isCover_53 : decode cX9_isCover 53 = .ok (.iconst 0, 1) := by decide +kernel
theorem dX9_isCover_54 : decode cX9_isCover 54 = .ok (.ireturn, 1) := by decide +kernel
theorem dX9_groupsOf_0 : decode cX9_groupsOf 0 = .ok (.iconst 0, 1) := by decide +kernel
theorem dX9_groupsOf_1 : decode cX9_groupsOf 1 = .ok (.istore_n 2, 1) := by decide +kernel
theorem dX9_groupsOf_2 : decode cX9_groupsOf 2 = .ok (.iload_n 1, 1) := by decide +kernel
theorem dX9_groupsOf_3 : decode cX9_groupsOf 3 = .ok (.istore_n 3, 1) := by decide +kernel
theorem dX9_groupsOf_4 : decode cX9_groupsOf 4 = .ok (.iload_n 3, 1) := by decide +kernel
theorem dX9_groupsOf_5 : decode cX9_groupsOf 5 = .ok (.ifCond .le 52, 3) := by decide +kernel
theorem dX9_groupsOf_8 : decode cX9_groupsOf 8 = .ok (.aload_n 0, 1) := by decide +kernel
theorem dX9_groupsOf_9 : decode cX9_groupsOf 9 = .ok (.getfield 46, 3) := by decide +kernel
theorem dX9_groupsOf_12 : decode cX9_groupsOf 12 = .ok (.iload_n 3, 1) := by decide +kernel
theorem dX9_groupsOf_13 : decode cX9_groupsOf 13 = .ok (.baload, 1) := by decide +kernel
theorem dX9_groupsOf_14 : decode cX9_groupsOf 14 = .ok (.ifCond .eq 18, 3) := by decide +kernel
theorem dX9_groupsOf_17 : decode cX9_groupsOf 17 = .ok (.iconst 1, 1) := by decide +kernel
theorem dX9_groupsOf_18 : decode cX9_groupsOf 18 = .ok (.aload_n 0, 1) := by decide +kernel
theorem dX9_groupsOf_19 : decode cX9_groupsOf 19 = .ok (.getfield 43, 3) := by decide +kernel
theorem dX9_groupsOf_22 : decode cX9_groupsOf 22 = .ok (.iload_n 1, 1) := by decide +kernel
theorem dX9_groupsOf_23 : decode cX9_groupsOf 23 = .ok (.iload_n 3, 1) := by decide +kernel
theorem dX9_groupsOf_24 : decode cX9_groupsOf 24 = .ok (.iconst (-1), 1) := by decide +kernel
theorem dX9_groupsOf_25 : decode cX9_groupsOf 25 = .ok (.ixor, 1) := by decide +kernel
theorem dX9_groupsOf_26 : decode cX9_groupsOf 26 = .ok (.iand, 1) := by decide +kernel
theorem dX9_groupsOf_27 : decode cX9_groupsOf 27 = .ok (.iaload, 1) := by decide +kernel
theorem dX9_groupsOf_28 : decode cX9_groupsOf 28 = .ok (.iadd, 1) := by decide +kernel
theorem dX9_groupsOf_29 : decode cX9_groupsOf 29 = .ok (.goto 4, 3) := by decide +kernel
theorem dX9_groupsOf_32 : decode cX9_groupsOf 32 = .ok (.iconst 0, 1) := by decide +kernel
theorem dX9_groupsOf_33 : decode cX9_groupsOf 33 = .ok (.istore 4, 2) := by decide +kernel
theorem dX9_groupsOf_35 : decode cX9_groupsOf 35 = .ok (.iload 4, 2) := by decide +kernel
theorem dX9_groupsOf_37 : decode cX9_groupsOf 37 = .ok (.iload_n 2, 1) := by decide +kernel
theorem dX9_groupsOf_38 : decode cX9_groupsOf 38 = .ok (.if_icmp .le 8, 3) := by decide +kernel
theorem dX9_groupsOf_41 : decode cX9_groupsOf 41 = .ok (.iload 4, 2) := by decide +kernel
theorem dX9_groupsOf_43 : decode cX9_groupsOf 43 = .ok (.goto 4, 3) := by decide +kernel
theorem dX9_groupsOf_46 : decode cX9_groupsOf 46 = .ok (.iload_n 2, 1) := by decide +kernel
theorem dX9_groupsOf_47 : decode cX9_groupsOf 47 = .ok (.istore_n 2, 1) := by decide +kernel
theorem dX9_groupsOf_48 : decode cX9_groupsOf 48 = .ok (.iload_n 3, 1) := by decide +kernel
theorem dX9_groupsOf_49 : decode cX9_groupsOf 49 = .ok (.iconst 1, 1) := by decide +kernel
theorem dX9_groupsOf_50 : decode cX9_groupsOf 50 = .ok (.isub, 1) := by decide +kernel
theorem dX9_groupsOf_51 : decode cX9_groupsOf 51 = .ok (.iload_n 1, 1) := by decide +kernel
theorem dX9_groupsOf_52 : decode cX9_groupsOf 52 = .ok (.iand, 1) := by decide +kernel
theorem dX9_groupsOf_53 : decode cX9_groupsOf 53 = .ok (.istore_n 3, 1) := by decide +kernel
theorem dX9_groupsOf_54 : decode cX9_groupsOf 54 = .ok (.goto (-50), 3) := by decide +kernel
theorem dX9_groupsOf_57 : decode cX9_groupsOf 57 = .ok (.iload_n 2, 1) := by decide +kernel
theorem dX9_groupsOf_58 : decode cX9_groupsOf 58 = .ok (.ireturn, 1) := by decide +kernel
set_option maxRecDepth 20000 in
theorem ggX9_most_X9_in : GoodIn wsX9_most wsX9_in := goodIn_r _ [9] rfl (by decide +kernel)
set_option maxRecDepth 20000 in
theorem gX9_most_X9_in : GoodIn wsX9_most (va_wsS RX9 71 yX9_in wsX9_in) := goodIn_app (goodIn_r _ [6, 7, 8] rfl (by decide +kernel)) ggX9_most_X9_in
set_option maxRecDepth 20000 in
theorem ggX9_most_X9_has : GoodIn wsX9_most wsX9_has := goodIn_r _ [12] rfl (by decide +kernel)
set_option maxRecDepth 20000 in
theorem gX9_most_X9_has : GoodIn wsX9_most (va_wsS RX9 87 yX9_has wsX9_has) := goodIn_app (goodIn_r _ [10, 11, 8] rfl (by decide +kernel)) ggX9_most_X9_has
set_option maxRecDepth 20000 in
theorem ggX9_most_X9_ones : GoodIn wsX9_most wsX9_ones := goodIn_r _ [15] rfl (by decide +kernel)
set_option maxRecDepth 20000 in
theorem gX9_most_X9_ones : GoodIn wsX9_most (va_wsS RX9 83 yX9_ones wsX9_ones) := goodIn_app (goodIn_r _ [13, 14, 8] rfl (by decide +kernel)) ggX9_most_X9_ones
set_option maxRecDepth 20000 in
theorem ggX9_most_X9_isCover : GoodIn wsX9_most wsX9_isCover := goodIn_r _ [19, 3, 10, 11, 8, 12, 24, 25, 26, 27, 28, 29, 30, 31, 32, 33, 34, 35, 36, 37, 38, 39, 40, 41, 42, 43, 44, 45, 46, 47, 48, 49, 50, 51, 52, 53] rfl (by decide +kernel)
set_option maxRecDepth 20000 in
theorem gX9_most_X9_isCover : GoodIn wsX9_most (wsV RX9 221 RX9 yX9_isCover wsX9_isCover) := goodIn_app (goodIn_r _ [16, 17, 18, 8] rfl (by decide +kernel)) ggX9_most_X9_isCover
set_option maxRecDepth 20000 in
theorem ggX9_most_X9_groupsOf : GoodIn wsX9_most wsX9_groupsOf := goodIn_r _ [23, 4, 5, 24, 25, 26, 27, 28, 29, 30, 31, 32, 33, 34, 35, 36, 37, 38, 39, 40, 41, 42, 43, 44, 45, 46, 47, 48, 49, 50, 51, 52, 53] rfl (by decide +kernel)
set_option maxRecDepth 20000 in
theorem gX9_most_X9_groupsOf : GoodIn wsX9_most (wsV RX9 224 RX9 yX9_groupsOf wsX9_groupsOf) := goodIn_app (goodIn_r _ [20, 21, 22, 8] rfl (by decide +kernel)) ggX9_most_X9_groupsOf
theorem dX9_most_0 : decode cX9_most 0 = .ok (.iload_n 1, 1) := by decide +kernel
theorem dX9_most_1 : decode cX9_most 1 = .ok (.i2l, 1) := by decide +kernel
theorem dX9_most_2 : decode cX9_most 2 = .ok (.lconst 1, 1) := by decide +kernel
theorem dX9_most_3 : decode cX9_most 3 = .ok (.ldc2_w 81, 3) := by decide +kernel
theorem dX9_most_6 : decode cX9_most 6 = .ok (.invokestatic 71, 3) := by decide +kernel
theorem dX9_most_9 : decode cX9_most 9 = .ok (.ifCond .eq 13, 3) := by decide +kernel
theorem dX9_most_12 : decode cX9_most 12 = .ok (.iload_n 2, 1) := by decide +kernel
theorem dX9_most_13 : decode cX9_most 13 = .ok (.i2l, 1) := by decide +kernel
theorem dX9_most_14 : decode cX9_most 14 = .ok (.lconst 0, 1) := by decide +kernel
theorem dX9_most_15 : decode cX9_most 15 = .ok (.lconst 1, 1) := by decide +kernel
theorem dX9_most_16 : decode cX9_most 16 = .ok (.invokestatic 71, 3) := by decide +kernel
theorem dX9_most_19 : decode cX9_most 19 = .ok (.ifCond .ne 6, 3) := by decide +kernel
theorem dX9_most_22 : decode cX9_most 22 = .ok (.bipush (-2), 2) := by decide +kernel
theorem dX9_most_24 : decode cX9_most 24 = .ok (.ireturn, 1) := by decide +kernel
theorem dX9_most_25 : decode cX9_most 25 = .ok (.iconst 0, 1) := by decide +kernel
theorem dX9_most_26 : decode cX9_most 26 = .ok (.istore_n 3, 1) := by decide +kernel
theorem dX9_most_27 : decode cX9_most 27 = .ok (.iconst 0, 1) := by decide +kernel
theorem dX9_most_28 : decode cX9_most 28 = .ok (.istore 4, 2) := by decide +kernel
theorem dX9_most_30 : decode cX9_most 30 = .ok (.iload 4, 2) := by decide +kernel
theorem dX9_most_32 : decode cX9_most 32 = .ok (.bipush 10, 2) := by decide +kernel
theorem dX9_most_34 : decode cX9_most 34 = .ok (.if_icmp .ge 44, 3) := by decide +kernel
theorem dX9_most_37 : decode cX9_most 37 = .ok (.iload_n 3, 1) := by decide +kernel
theorem dX9_most_38 : decode cX9_most 38 = .ok (.aload_n 0, 1) := by decide +kernel
theorem dX9_most_39 : decode cX9_most 39 = .ok (.getfield 62, 3) := by decide +kernel
theorem dX9_most_42 : decode cX9_most 42 = .ok (.iload 4, 2) := by decide +kernel
theorem dX9_most_44 : decode cX9_most 44 = .ok (.invokestatic 87, 3) := by decide +kernel
theorem dX9_most_47 : decode cX9_most 47 = .ok (.ifCond .eq 22, 3) := by decide +kernel
theorem dX9_most_50 : decode cX9_most 50 = .ok (.aload_n 0, 1) := by decide +kernel
theorem dX9_most_51 : decode cX9_most 51 = .ok (.getfield 13, 3) := by decide +kernel
theorem dX9_most_54 : decode cX9_most 54 = .ok (.iload 4, 2) := by decide +kernel
theorem dX9_most_56 : decode cX9_most 56 = .ok (.iaload, 1) := by decide +kernel
theorem dX9_most_57 : decode cX9_most 57 = .ok (.iload_n 1, 1) := by decide +kernel
theorem dX9_most_58 : decode cX9_most 58 = .ok (.iand, 1) := by decide +kernel
theorem dX9_most_59 : decode cX9_most 59 = .ok (.ifCond .eq 10, 3) := by decide +kernel
theorem dX9_most_62 : decode cX9_most 62 = .ok (.iconst 1, 1) := by decide +kernel
theorem dX9_most_63 : decode cX9_most 63 = .ok (.iload 4, 2) := by decide +kernel
theorem dX9_most_65 : decode cX9_most 65 = .ok (.ishl, 1) := by decide +kernel
theorem dX9_most_66 : decode cX9_most 66 = .ok (.goto 4, 3) := by decide +kernel
theorem dX9_most_69 : decode cX9_most 69 = .ok (.iconst 0, 1) := by decide +kernel
theorem dX9_most_70 : decode cX9_most 70 = .ok (.ior, 1) := by decide +kernel
theorem dX9_most_71 : decode cX9_most 71 = .ok (.istore_n 3, 1) := by decide +kernel
theorem dX9_most_72 : decode cX9_most 72 = .ok (.iinc 4 1, 3) := by decide +kernel
theorem dX9_most_75 : decode cX9_most 75 = .ok (.goto (-45), 3) := by decide +kernel
theorem dX9_most_78 : decode cX9_most 78 = .ok (.iload_n 2, 1) := by decide +kernel
theorem dX9_most_79 : decode cX9_most 79 = .ok (.iconst 1, 1) := by decide +kernel
theorem dX9_most_80 : decode cX9_most 80 = .ok (.if_icmp .ne 8, 3) := by decide +kernel
theorem dX9_most_83 : decode cX9_most 83 = .ok (.iload_n 3, 1) := by decide +kernel
theorem dX9_most_84 : decode cX9_most 84 = .ok (.invokestatic 83, 3) := by decide +kernel
theorem dX9_most_87 : decode cX9_most 87 = .ok (.ireturn, 1) := by decide +kernel
theorem dX9_most_88 : decode cX9_most 88 = .ok (.iconst 0, 1) := by decide +kernel
theorem dX9_most_89 : decode cX9_most 89 = .ok (.istore 4, 2) := by decide +kernel
theorem dX9_most_91 : decode cX9_most 91 = .ok (.iload 4, 2) := by decide +kernel
theorem dX9_most_93 : decode cX9_most 93 = .ok (.sipush 1024, 3) := by decide +kernel
theorem dX9_most_96 : decode cX9_most 96 = .ok (.if_icmp .ge 79, 3) := by decide +kernel
theorem dX9_most_99 : decode cX9_most 99 = .ok (.iload 4, 2) := by decide +kernel
theorem dX9_most_101 : decode cX9_most 101 = .ok (.iload_n 3, 1) := by decide +kernel
theorem dX9_most_102 : decode cX9_most 102 = .ok (.iconst (-1), 1) := by decide +kernel
theorem dX9_most_103 : decode cX9_most 103 = .ok (.ixor, 1) := by decide +kernel
theorem dX9_most_104 : decode cX9_most 104 = .ok (.iand, 1) := by decide +kernel
theorem dX9_most_105 : decode cX9_most 105 = .ok (.ifCond .ne 7, 3) := by decide +kernel
theorem dX9_most_108 : decode cX9_most 108 = .ok (.iconst 1, 1) := by decide +kernel
theorem dX9_most_109 : decode cX9_most 109 = .ok (.goto 4, 3) := by decide +kernel
theorem dX9_most_112 : decode cX9_most 112 = .ok (.iconst 0, 1) := by decide +kernel
theorem dX9_most_113 : decode cX9_most 113 = .ok (.istore 5, 2) := by decide +kernel
theorem dX9_most_115 : decode cX9_most 115 = .ok (.aload_n 0, 1) := by decide +kernel
theorem dX9_most_116 : decode cX9_most 116 = .ok (.getfield 46, 3) := by decide +kernel
theorem dX9_most_119 : decode cX9_most 119 = .ok (.iload 4, 2) := by decide +kernel
theorem dX9_most_121 : decode cX9_most 121 = .ok (.iload 5, 2) := by decide +kernel
theorem dX9_most_123 : decode cX9_most 123 = .ok (.ifCond .eq 22, 3) := by decide +kernel
theorem dX9_most_126 : decode cX9_most 126 = .ok (.iload 4, 2) := by decide +kernel
theorem dX9_most_128 : decode cX9_most 128 = .ok (.ifCond .le 17, 3) := by decide +kernel
theorem dX9_most_131 : decode cX9_most 131 = .ok (.aload_n 0, 1) := by decide +kernel
theorem dX9_most_132 : decode cX9_most 132 = .ok (.iload 4, 2) := by decide +kernel
theorem dX9_most_134 : decode cX9_most 134 = .ok (.iload_n 1, 1) := by decide +kernel
theorem dX9_most_135 : decode cX9_most 135 = .ok (.invokevirtual 221, 3) := by decide +kernel
theorem dX9_most_138 : decode cX9_most 138 = .ok (.ifCond .eq 7, 3) := by decide +kernel
theorem dX9_most_141 : decode cX9_most 141 = .ok (.iconst 1, 1) := by decide +kernel
theorem dX9_most_142 : decode cX9_most 142 = .ok (.goto 4, 3) := by decide +kernel
theorem dX9_most_145 : decode cX9_most 145 = .ok (.iconst 0, 1) := by decide +kernel
theorem dX9_most_146 : decode cX9_most 146 = .ok (.bastore, 1) := by decide +kernel
theorem dX9_most_147 : decode cX9_most 147 = .ok (.aload_n 0, 1) := by decide +kernel
theorem dX9_most_148 : decode cX9_most 148 = .ok (.getfield 43, 3) := by decide +kernel
theorem dX9_most_151 : decode cX9_most 151 = .ok (.iload 4, 2) := by decide +kernel
theorem dX9_most_153 : decode cX9_most 153 = .ok (.iload 5, 2) := by decide +kernel
theorem dX9_most_155 : decode cX9_most 155 = .ok (.ifCond .eq 12, 3) := by decide +kernel
theorem dX9_most_158 : decode cX9_most 158 = .ok (.aload_n 0, 1) := by decide +kernel
theorem dX9_most_159 : decode cX9_most 159 = .ok (.iload 4, 2) := by decide +kernel
theorem dX9_most_161 : decode cX9_most 161 = .ok (.invokevirtual 224, 3) := by decide +kernel
theorem dX9_most_164 : decode cX9_most 164 = .ok (.goto 4, 3) := by decide +kernel
theorem dX9_most_167 : decode cX9_most 167 = .ok (.iconst 0, 1) := by decide +kernel
theorem dX9_most_168 : decode cX9_most 168 = .ok (.iastore, 1) := by decide +kernel
theorem dX9_most_169 : decode cX9_most 169 = .ok (.iinc 4 1, 3) := by decide +kernel
theorem dX9_most_172 : decode cX9_most 172 = .ok (.goto (-81), 3) := by decide +kernel
theorem dX9_most_175 : decode cX9_most 175 = .ok (.aload_n 0, 1) := by decide +kernel
theorem dX9_most_176 : decode cX9_most 176 = .ok (.getfield 43, 3) := by decide +kernel
theorem dX9_most_179 : decode cX9_most 179 = .ok (.iload_n 3, 1) := by decide +kernel
theorem dX9_most_180 : decode cX9_most 180 = .ok (.iaload, 1) := by decide +kernel
theorem dX9_most_181 : decode cX9_most 181 = .ok (.ireturn, 1) := by decide +kernel
set_option maxRecDepth 20000 in
theorem ggX9_weight_X9_ones : GoodIn wsX9_weight wsX9_ones := goodIn_r _ [5] rfl (by decide +kernel)
set_option maxRecDepth 20000 in
theorem gX9_weight_X9_ones : GoodIn wsX9_weight (va_wsS RX9 83 yX9_ones wsX9_ones) := goodIn_app (goodIn_r _ [2, 3, 4] rfl (by decide +kernel)) ggX9_weight_X9_ones
theorem dX9_weight_0 : decode cX9_weight 0 = .ok (.iconst 1, 1) := by decide +kernel
theorem dX9_weight_1 : decode cX9_weight 1 = .ok (.aload_n 0, 1) := by decide +kernel
theorem dX9_weight_2 : decode cX9_weight 2 = .ok (.getfield 13, 3) := by decide +kernel
theorem dX9_weight_5 : decode cX9_weight 5 = .ok (.iload_n 1, 1) := by decide +kernel
theorem dX9_weight_6 : decode cX9_weight 6 = .ok (.iaload, 1) := by decide +kernel
theorem dX9_weight_7 : decode cX9_weight 7 = .ok (.invokestatic 83, 3) := by decide +kernel
theorem dX9_weight_10 : decode cX9_weight 10 = .ok (.iadd, 1) := by decide +kernel
theorem dX9_weight_11 : decode cX9_weight 11 = .ok (.ireturn, 1) := by decide +kernel
theorem dX9_bears_0 : decode cX9_bears 0 = .ok (.aload_n 0, 1) := by decide +kernel
theorem dX9_bears_1 : decode cX9_bears 1 = .ok (.getfield 7, 3) := by decide +kernel
theorem dX9_bears_4 : decode cX9_bears 4 = .ok (.iload_n 1, 1) := by decide +kernel
theorem dX9_bears_5 : decode cX9_bears 5 = .ok (.iaload, 1) := by decide +kernel
theorem dX9_bears_6 : decode cX9_bears 6 = .ok (.iconst 5, 1) := by decide +kernel
theorem dX9_bears_7 : decode cX9_bears 7 = .ok (.idiv, 1) := by decide +kernel
theorem dX9_bears_8 : decode cX9_bears 8 = .ok (.ireturn, 1) := by decide +kernel
set_option maxRecDepth 20000 in
theorem ggX9_nextOf_X9_has : GoodIn wsX9_nextOf wsX9_has := goodIn_r _ [4] rfl (by decide +kernel)
set_option maxRecDepth 20000 in
theorem gX9_nextOf_X9_has : GoodIn wsX9_nextOf (va_wsS RX9 87 yX9_has wsX9_has) := goodIn_app (goodIn_r _ [1, 2, 3] rfl (by decide +kernel)) ggX9_nextOf_X9_has
set_option maxRecDepth 20000 in
theorem ggX9_nextOf_X9_weight : GoodIn wsX9_nextOf wsX9_weight := goodIn_r _ [8, 9, 10, 11, 3, 12, 18, 19, 20, 21, 22, 23, 24, 25, 26, 27, 28, 29, 30, 31, 32, 33, 34, 35, 36, 37, 38, 39, 40, 41, 42, 43, 44, 45, 46, 47] rfl (by decide +kernel)
set_option maxRecDepth 20000 in
theorem gX9_nextOf_X9_weight : GoodIn wsX9_nextOf (wsV RX9 227 RX9 yX9_weight wsX9_weight) := goodIn_app (goodIn_r _ [5, 6, 7, 3] rfl (by decide +kernel)) ggX9_nextOf_X9_weight
set_option maxRecDepth 20000 in
theorem ggX9_nextOf_X9_bears : GoodIn wsX9_nextOf wsX9_bears := goodIn_r _ [16, 17, 18, 19, 20, 21, 22, 23, 24, 25, 26, 27, 28, 29, 30, 31, 32, 33, 34, 35, 36, 37, 38, 39, 40, 41, 42, 43, 44, 45, 46, 47] rfl (by decide +kernel)
set_option maxRecDepth 20000 in
theorem gX9_nextOf_X9_bears : GoodIn wsX9_nextOf (wsV RX9 230 RX9 yX9_bears wsX9_bears) := goodIn_app (goodIn_r _ [13, 14, 15, 3] rfl (by decide +kernel)) ggX9_nextOf_X9_bears
theorem dX9_nextOf_0 : decode cX9_nextOf 0 = .ok (.bipush (-6), 2) := by decide +kernel
theorem dX9_nextOf_2 : decode cX9_nextOf 2 = .ok (.istore_n 2, 1) := by decide +kernel
theorem dX9_nextOf_3 : decode cX9_nextOf 3 = .ok (.iconst 0, 1) := by decide +kernel
theorem dX9_nextOf_4 : decode cX9_nextOf 4 = .ok (.istore_n 3, 1) := by decide +kernel
theorem dX9_nextOf_5 : decode cX9_nextOf 5 = .ok (.iload_n 3, 1) := by decide +kernel
theorem dX9_nextOf_6 : decode cX9_nextOf 6 = .ok (.bipush 10, 2) := by decide +kernel
theorem dX9_nextOf_8 : decode cX9_nextOf 8 = .ok (.if_icmp .ge 64, 3) := by decide +kernel
theorem dX9_nextOf_11 : decode cX9_nextOf 11 = .ok (.iload_n 1, 1) := by decide +kernel
theorem dX9_nextOf_12 : decode cX9_nextOf 12 = .ok (.iload_n 3, 1) := by decide +kernel
theorem dX9_nextOf_13 : decode cX9_nextOf 13 = .ok (.invokestatic 87, 3) := by decide +kernel
theorem dX9_nextOf_16 : decode cX9_nextOf 16 = .ok (.ifCond .eq 36, 3) := by decide +kernel
theorem dX9_nextOf_19 : decode cX9_nextOf 19 = .ok (.iload_n 2, 1) := by decide +kernel
theorem dX9_nextOf_20 : decode cX9_nextOf 20 = .ok (.ifCond .lt 28, 3) := by decide +kernel
theorem dX9_nextOf_23 : decode cX9_nextOf 23 = .ok (.aload_n 0, 1) := by decide +kernel
theorem dX9_nextOf_24 : decode cX9_nextOf 24 = .ok (.iload_n 3, 1) := by decide +kernel
theorem dX9_nextOf_25 : decode cX9_nextOf 25 = .ok (.invokevirtual 227, 3) := by decide +kernel
theorem dX9_nextOf_28 : decode cX9_nextOf 28 = .ok (.aload_n 0, 1) := by decide +kernel
theorem dX9_nextOf_29 : decode cX9_nextOf 29 = .ok (.iload_n 3, 1) := by decide +kernel
theorem dX9_nextOf_30 : decode cX9_nextOf 30 = .ok (.invokevirtual 230, 3) := by decide +kernel
theorem dX9_nextOf_33 : decode cX9_nextOf 33 = .ok (.iadd, 1) := by decide +kernel
theorem dX9_nextOf_34 : decode cX9_nextOf 34 = .ok (.aload_n 0, 1) := by decide +kernel
theorem dX9_nextOf_35 : decode cX9_nextOf 35 = .ok (.iload_n 2, 1) := by decide +kernel
theorem dX9_nextOf_36 : decode cX9_nextOf 36 = .ok (.invokevirtual 227, 3) := by decide +kernel
theorem dX9_nextOf_39 : decode cX9_nextOf 39 = .ok (.aload_n 0, 1) := by decide +kernel
theorem dX9_nextOf_40 : decode cX9_nextOf 40 = .ok (.iload_n 2, 1) := by decide +kernel
theorem dX9_nextOf_41 : decode cX9_nextOf 41 = .ok (.invokevirtual 230, 3) := by decide +kernel
