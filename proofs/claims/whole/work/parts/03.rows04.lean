theorem dX9_nextOf_44 : decode cX9_nextOf 44 = .ok (.iadd, 1) := by decide +kernel
theorem dX9_nextOf_45 : decode cX9_nextOf 45 = .ok (.if_icmp .ge 7, 3) := by decide +kernel
theorem dX9_nextOf_48 : decode cX9_nextOf 48 = .ok (.iconst 1, 1) := by decide +kernel
theorem dX9_nextOf_49 : decode cX9_nextOf 49 = .ok (.goto 4, 3) := by decide +kernel
theorem dX9_nextOf_52 : decode cX9_nextOf 52 = .ok (.iconst 0, 1) := by decide +kernel
theorem dX9_nextOf_53 : decode cX9_nextOf 53 = .ok (.istore 4, 2) := by decide +kernel
theorem dX9_nextOf_55 : decode cX9_nextOf 55 = .ok (.iload 4, 2) := by decide +kernel
theorem dX9_nextOf_57 : decode cX9_nextOf 57 = .ok (.ifCond .eq 7, 3) := by decide +kernel
theorem dX9_nextOf_60 : decode cX9_nextOf 60 = .ok (.iload_n 3, 1) := by decide +kernel
theorem dX9_nextOf_61 : decode cX9_nextOf 61 = .ok (.goto 4, 3) := by decide +kernel
theorem dX9_nextOf_64 : decode cX9_nextOf 64 = .ok (.iload_n 2, 1) := by decide +kernel
theorem dX9_nextOf_65 : decode cX9_nextOf 65 = .ok (.istore_n 2, 1) := by decide +kernel
theorem dX9_nextOf_66 : decode cX9_nextOf 66 = .ok (.iinc 3 1, 3) := by decide +kernel
theorem dX9_nextOf_69 : decode cX9_nextOf 69 = .ok (.goto (-64), 3) := by decide +kernel
theorem dX9_nextOf_72 : decode cX9_nextOf 72 = .ok (.iload_n 2, 1) := by decide +kernel
theorem dX9_nextOf_73 : decode cX9_nextOf 73 = .ok (.ireturn, 1) := by decide +kernel
set_option maxRecDepth 20000 in
theorem ggX9_isPile_X9_nextOf : GoodIn wsX9_isPile wsX9_nextOf := goodIn_r _ [5, 6, 7, 4, 8, 9, 10, 11, 12, 13, 14, 15, 16, 17, 18, 19, 20, 21, 22, 23, 24, 25, 26, 27, 28, 29, 30, 31, 32, 33, 34, 35, 36, 37, 38, 39, 40, 41, 42, 43, 44, 45, 46, 47, 48, 49, 50, 51] rfl (by decide +kernel)
set_option maxRecDepth 20000 in
theorem gX9_isPile_X9_nextOf : GoodIn wsX9_isPile (wsV RX9 233 RX9 yX9_nextOf wsX9_nextOf) := goodIn_app (goodIn_r _ [1, 2, 3, 4] rfl (by decide +kernel)) ggX9_isPile_X9_nextOf
set_option maxRecDepth 20000 in
theorem ggX9_isPile_X9_bears : GoodIn wsX9_isPile wsX9_bears := goodIn_r _ [20, 21, 22, 23, 24, 25, 26, 27, 28, 29, 30, 31, 32, 33, 34, 35, 36, 37, 38, 39, 40, 41, 42, 43, 44, 45, 46, 47, 48, 49, 50, 51] rfl (by decide +kernel)
set_option maxRecDepth 20000 in
theorem gX9_isPile_X9_bears : GoodIn wsX9_isPile (wsV RX9 230 RX9 yX9_bears wsX9_bears) := goodIn_app (goodIn_r _ [17, 18, 19, 4] rfl (by decide +kernel)) ggX9_isPile_X9_bears
set_option maxRecDepth 20000 in
theorem ggX9_isPile_X9_weight : GoodIn wsX9_isPile wsX9_weight := goodIn_r _ [12, 13, 14, 15, 4, 16, 22, 23, 24, 25, 26, 27, 28, 29, 30, 31, 32, 33, 34, 35, 36, 37, 38, 39, 40, 41, 42, 43, 44, 45, 46, 47, 48, 49, 50, 51] rfl (by decide +kernel)
set_option maxRecDepth 20000 in
theorem gX9_isPile_X9_weight : GoodIn wsX9_isPile (wsV RX9 227 RX9 yX9_weight wsX9_weight) := goodIn_app (goodIn_r _ [9, 10, 11, 4] rfl (by decide +kernel)) ggX9_isPile_X9_weight
theorem dX9_isPile_0 : decode cX9_isPile 0 = .ok (.iload_n 1, 1) := by decide +kernel
theorem dX9_isPile_1 : decode cX9_isPile 1 = .ok (.istore_n 2, 1) := by decide +kernel
theorem dX9_isPile_2 : decode cX9_isPile 2 = .ok (.iconst 0, 1) := by decide +kernel
theorem dX9_isPile_3 : decode cX9_isPile 3 = .ok (.istore_n 3, 1) := by decide +kernel
theorem dX9_isPile_4 : decode cX9_isPile 4 = .ok (.iconst 1, 1) := by decide +kernel
theorem dX9_isPile_5 : decode cX9_isPile 5 = .ok (.istore 4, 2) := by decide +kernel
theorem dX9_isPile_7 : decode cX9_isPile 7 = .ok (.iload_n 2, 1) := by decide +kernel
theorem dX9_isPile_8 : decode cX9_isPile 8 = .ok (.ifCond .eq 53, 3) := by decide +kernel
theorem dX9_isPile_11 : decode cX9_isPile 11 = .ok (.iload 4, 2) := by decide +kernel
theorem dX9_isPile_13 : decode cX9_isPile 13 = .ok (.ifCond .eq 48, 3) := by decide +kernel
theorem dX9_isPile_16 : decode cX9_isPile 16 = .ok (.aload_n 0, 1) := by decide +kernel
theorem dX9_isPile_17 : decode cX9_isPile 17 = .ok (.iload_n 2, 1) := by decide +kernel
theorem dX9_isPile_18 : decode cX9_isPile 18 = .ok (.invokevirtual 233, 3) := by decide +kernel
theorem dX9_isPile_21 : decode cX9_isPile 21 = .ok (.istore 5, 2) := by decide +kernel
theorem dX9_isPile_23 : decode cX9_isPile 23 = .ok (.iload_n 3, 1) := by decide +kernel
theorem dX9_isPile_24 : decode cX9_isPile 24 = .ok (.aload_n 0, 1) := by decide +kernel
theorem dX9_isPile_25 : decode cX9_isPile 25 = .ok (.iload 5, 2) := by decide +kernel
theorem dX9_isPile_27 : decode cX9_isPile 27 = .ok (.invokevirtual 230, 3) := by decide +kernel
theorem dX9_isPile_30 : decode cX9_isPile 30 = .ok (.if_icmp .gt 7, 3) := by decide +kernel
theorem dX9_isPile_33 : decode cX9_isPile 33 = .ok (.iconst 1, 1) := by decide +kernel
theorem dX9_isPile_34 : decode cX9_isPile 34 = .ok (.goto 4, 3) := by decide +kernel
theorem dX9_isPile_37 : decode cX9_isPile 37 = .ok (.iconst 0, 1) := by decide +kernel
theorem dX9_isPile_38 : decode cX9_isPile 38 = .ok (.istore 4, 2) := by decide +kernel
theorem dX9_isPile_40 : decode cX9_isPile 40 = .ok (.iload_n 3, 1) := by decide +kernel
theorem dX9_isPile_41 : decode cX9_isPile 41 = .ok (.aload_n 0, 1) := by decide +kernel
theorem dX9_isPile_42 : decode cX9_isPile 42 = .ok (.iload 5, 2) := by decide +kernel
theorem dX9_isPile_44 : decode cX9_isPile 44 = .ok (.invokevirtual 227, 3) := by decide +kernel
theorem dX9_isPile_47 : decode cX9_isPile 47 = .ok (.iadd, 1) := by decide +kernel
theorem dX9_isPile_48 : decode cX9_isPile 48 = .ok (.istore_n 3, 1) := by decide +kernel
theorem dX9_isPile_49 : decode cX9_isPile 49 = .ok (.iload_n 2, 1) := by decide +kernel
theorem dX9_isPile_50 : decode cX9_isPile 50 = .ok (.iconst 1, 1) := by decide +kernel
theorem dX9_isPile_51 : decode cX9_isPile 51 = .ok (.iload 5, 2) := by decide +kernel
theorem dX9_isPile_53 : decode cX9_isPile 53 = .ok (.ishl, 1) := by decide +kernel
theorem dX9_isPile_54 : decode cX9_isPile 54 = .ok (.iconst (-1), 1) := by decide +kernel
theorem dX9_isPile_55 : decode cX9_isPile 55 = .ok (.ixor, 1) := by decide +kernel
theorem dX9_isPile_56 : decode cX9_isPile 56 = .ok (.iand, 1) := by decide +kernel
theorem dX9_isPile_57 : decode cX9_isPile 57 = .ok (.istore_n 2, 1) := by decide +kernel
theorem dX9_isPile_58 : decode cX9_isPile 58 = .ok (.goto (-51), 3) := by decide +kernel
theorem dX9_isPile_61 : decode cX9_isPile 61 = .ok (.iload 4, 2) := by decide +kernel
theorem dX9_isPile_63 : decode cX9_isPile 63 = .ok (.ireturn, 1) := by decide +kernel
set_option maxRecDepth 20000 in
theorem ggX9_pile_X9_in : GoodIn wsX9_pile wsX9_in := goodIn_r _ [5] rfl (by decide +kernel)
set_option maxRecDepth 20000 in
theorem gX9_pile_X9_in : GoodIn wsX9_pile (va_wsS RX9 71 yX9_in wsX9_in) := goodIn_app (goodIn_r _ [2, 3, 4] rfl (by decide +kernel)) ggX9_pile_X9_in
set_option maxRecDepth 20000 in
theorem ggX9_pile_X9_ones : GoodIn wsX9_pile wsX9_ones := goodIn_r _ [8] rfl (by decide +kernel)
set_option maxRecDepth 20000 in
theorem gX9_pile_X9_ones : GoodIn wsX9_pile (va_wsS RX9 83 yX9_ones wsX9_ones) := goodIn_app (goodIn_r _ [6, 7, 4] rfl (by decide +kernel)) ggX9_pile_X9_ones
set_option maxRecDepth 20000 in
theorem ggX9_pile_X9_isPile : GoodIn wsX9_pile wsX9_isPile := goodIn_r _ [12, 13, 14, 15, 4, 16, 17, 18, 19, 20, 21, 22, 23, 24, 6, 7, 8, 25, 26, 27, 28, 29, 30, 31, 32, 33, 34, 35, 36, 37, 38, 39, 40, 41, 42, 43, 44, 45, 46, 47, 48, 49, 50, 51, 52, 53, 54, 55, 56, 57, 58, 59] rfl (by decide +kernel)
set_option maxRecDepth 20000 in
theorem gX9_pile_X9_isPile : GoodIn wsX9_pile (wsV RX9 236 RX9 yX9_isPile wsX9_isPile) := goodIn_app (goodIn_r _ [9, 10, 11, 4] rfl (by decide +kernel)) ggX9_pile_X9_isPile
theorem dX9_pile_0 : decode cX9_pile 0 = .ok (.iload_n 1, 1) := by decide +kernel
theorem dX9_pile_1 : decode cX9_pile 1 = .ok (.i2l, 1) := by decide +kernel
theorem dX9_pile_2 : decode cX9_pile 2 = .ok (.lconst 0, 1) := by decide +kernel
theorem dX9_pile_3 : decode cX9_pile 3 = .ok (.lconst 1, 1) := by decide +kernel
theorem dX9_pile_4 : decode cX9_pile 4 = .ok (.invokestatic 71, 3) := by decide +kernel
theorem dX9_pile_7 : decode cX9_pile 7 = .ok (.ifCond .ne 6, 3) := by decide +kernel
theorem dX9_pile_10 : decode cX9_pile 10 = .ok (.bipush (-2), 2) := by decide +kernel
theorem dX9_pile_12 : decode cX9_pile 12 = .ok (.ireturn, 1) := by decide +kernel
theorem dX9_pile_13 : decode cX9_pile 13 = .ok (.iconst 0, 1) := by decide +kernel
theorem dX9_pile_14 : decode cX9_pile 14 = .ok (.istore_n 2, 1) := by decide +kernel
theorem dX9_pile_15 : decode cX9_pile 15 = .ok (.iconst 1, 1) := by decide +kernel
theorem dX9_pile_16 : decode cX9_pile 16 = .ok (.istore_n 3, 1) := by decide +kernel
theorem dX9_pile_17 : decode cX9_pile 17 = .ok (.iload_n 3, 1) := by decide +kernel
theorem dX9_pile_18 : decode cX9_pile 18 = .ok (.sipush 1024, 3) := by decide +kernel
theorem dX9_pile_21 : decode cX9_pile 21 = .ok (.if_icmp .ge 57, 3) := by decide +kernel
theorem dX9_pile_24 : decode cX9_pile 24 = .ok (.iload_n 3, 1) := by decide +kernel
theorem dX9_pile_25 : decode cX9_pile 25 = .ok (.aload_n 0, 1) := by decide +kernel
theorem dX9_pile_26 : decode cX9_pile 26 = .ok (.getfield 62, 3) := by decide +kernel
theorem dX9_pile_29 : decode cX9_pile 29 = .ok (.iconst (-1), 1) := by decide +kernel
theorem dX9_pile_30 : decode cX9_pile 30 = .ok (.ixor, 1) := by decide +kernel
theorem dX9_pile_31 : decode cX9_pile 31 = .ok (.iand, 1) := by decide +kernel
theorem dX9_pile_32 : decode cX9_pile 32 = .ok (.ifCond .ne 18, 3) := by decide +kernel
theorem dX9_pile_35 : decode cX9_pile 35 = .ok (.iload_n 3, 1) := by decide +kernel
theorem dX9_pile_36 : decode cX9_pile 36 = .ok (.invokestatic 83, 3) := by decide +kernel
theorem dX9_pile_39 : decode cX9_pile 39 = .ok (.iload_n 2, 1) := by decide +kernel
theorem dX9_pile_40 : decode cX9_pile 40 = .ok (.invokestatic 83, 3) := by decide +kernel
theorem dX9_pile_43 : decode cX9_pile 43 = .ok (.if_icmp .le 7, 3) := by decide +kernel
theorem dX9_pile_46 : decode cX9_pile 46 = .ok (.iconst 1, 1) := by decide +kernel
theorem dX9_pile_47 : decode cX9_pile 47 = .ok (.goto 4, 3) := by decide +kernel
theorem dX9_pile_50 : decode cX9_pile 50 = .ok (.iconst 0, 1) := by decide +kernel
theorem dX9_pile_51 : decode cX9_pile 51 = .ok (.istore 4, 2) := by decide +kernel
theorem dX9_pile_53 : decode cX9_pile 53 = .ok (.iload 4, 2) := by decide +kernel
theorem dX9_pile_55 : decode cX9_pile 55 = .ok (.ifCond .eq 15, 3) := by decide +kernel
theorem dX9_pile_58 : decode cX9_pile 58 = .ok (.aload_n 0, 1) := by decide +kernel
theorem dX9_pile_59 : decode cX9_pile 59 = .ok (.iload_n 3, 1) := by decide +kernel
theorem dX9_pile_60 : decode cX9_pile 60 = .ok (.invokevirtual 236, 3) := by decide +kernel
theorem dX9_pile_63 : decode cX9_pile 63 = .ok (.ifCond .eq 7, 3) := by decide +kernel
theorem dX9_pile_66 : decode cX9_pile 66 = .ok (.iload_n 3, 1) := by decide +kernel
theorem dX9_pile_67 : decode cX9_pile 67 = .ok (.goto 4, 3) := by decide +kernel
theorem dX9_pile_70 : decode cX9_pile 70 = .ok (.iload_n 2, 1) := by decide +kernel
theorem dX9_pile_71 : decode cX9_pile 71 = .ok (.istore_n 2, 1) := by decide +kernel
theorem dX9_pile_72 : decode cX9_pile 72 = .ok (.iinc 3 1, 3) := by decide +kernel
theorem dX9_pile_75 : decode cX9_pile 75 = .ok (.goto (-58), 3) := by decide +kernel
theorem dX9_pile_78 : decode cX9_pile 78 = .ok (.iload_n 1, 1) := by decide +kernel
theorem dX9_pile_79 : decode cX9_pile 79 = .ok (.ifCond .ne 10, 3) := by decide +kernel
theorem dX9_pile_82 : decode cX9_pile 82 = .ok (.iload_n 2, 1) := by decide +kernel
theorem dX9_pile_83 : decode cX9_pile 83 = .ok (.invokestatic 83, 3) := by decide +kernel
theorem dX9_pile_86 : decode cX9_pile 86 = .ok (.goto 4, 3) := by decide +kernel
theorem dX9_pile_89 : decode cX9_pile 89 = .ok (.iload_n 2, 1) := by decide +kernel
theorem dX9_pile_90 : decode cX9_pile 90 = .ok (.ireturn, 1) := by decide +kernel
set_option maxRecDepth 20000 in
theorem ggX9_felt_X9_in : GoodIn wsX9_felt wsX9_in := goodIn_r _ [9] rfl (by decide +kernel)
set_option maxRecDepth 20000 in
theorem gX9_felt_X9_in : GoodIn wsX9_felt (va_wsS RX9 71 yX9_in wsX9_in) := goodIn_app (goodIn_r _ [6, 7, 8] rfl (by decide +kernel)) ggX9_felt_X9_in
theorem dX9_felt_0 : decode cX9_felt 0 = .ok (.iload_n 1, 1) := by decide +kernel
theorem dX9_felt_1 : decode cX9_felt 1 = .ok (.i2l, 1) := by decide +kernel
theorem dX9_felt_2 : decode cX9_felt 2 = .ok (.lconst 0, 1) := by decide +kernel
theorem dX9_felt_3 : decode cX9_felt 3 = .ok (.ldc2_w 239, 3) := by decide +kernel
theorem dX9_felt_6 : decode cX9_felt 6 = .ok (.invokestatic 71, 3) := by decide +kernel
theorem dX9_felt_9 : decode cX9_felt 9 = .ok (.ifCond .eq 15, 3) := by decide +kernel
theorem dX9_felt_12 : decode cX9_felt 12 = .ok (.iload_n 2, 1) := by decide +kernel
theorem dX9_felt_13 : decode cX9_felt 13 = .ok (.i2l, 1) := by decide +kernel
theorem dX9_felt_14 : decode cX9_felt 14 = .ok (.lconst 0, 1) := by decide +kernel
theorem dX9_felt_15 : decode cX9_felt 15 = .ok (.ldc2_w 79, 3) := by decide +kernel
theorem dX9_felt_18 : decode cX9_felt 18 = .ok (.invokestatic 71, 3) := by decide +kernel
theorem dX9_felt_21 : decode cX9_felt 21 = .ok (.ifCond .ne 6, 3) := by decide +kernel
theorem dX9_felt_24 : decode cX9_felt 24 = .ok (.bipush (-2), 2) := by decide +kernel
theorem dX9_felt_26 : decode cX9_felt 26 = .ok (.ireturn, 1) := by decide +kernel
theorem dX9_felt_27 : decode cX9_felt 27 = .ok (.aload_n 0, 1) := by decide +kernel
theorem dX9_felt_28 : decode cX9_felt 28 = .ok (.getfield 241, 3) := by decide +kernel
theorem dX9_felt_31 : decode cX9_felt 31 = .ok (.bipush 8, 2) := by decide +kernel
theorem dX9_felt_33 : decode cX9_felt 33 = .ok (.if_icmp .ne 6, 3) := by decide +kernel
theorem dX9_felt_36 : decode cX9_felt 36 = .ok (.bipush (-4), 2) := by decide +kernel
theorem dX9_felt_38 : decode cX9_felt 38 = .ok (.ireturn, 1) := by decide +kernel
theorem dX9_felt_39 : decode cX9_felt 39 = .ok (.aload_n 0, 1) := by decide +kernel
theorem dX9_felt_40 : decode cX9_felt 40 = .ok (.getfield 19, 3) := by decide +kernel
theorem dX9_felt_43 : decode cX9_felt 43 = .ok (.aload_n 0, 1) := by decide +kernel
theorem dX9_felt_44 : decode cX9_felt 44 = .ok (.getfield 241, 3) := by decide +kernel
theorem dX9_felt_47 : decode cX9_felt 47 = .ok (.iload_n 1, 1) := by decide +kernel
theorem dX9_felt_48 : decode cX9_felt 48 = .ok (.iastore, 1) := by decide +kernel
theorem dX9_felt_49 : decode cX9_felt 49 = .ok (.aload_n 0, 1) := by decide +kernel
theorem dX9_felt_50 : decode cX9_felt 50 = .ok (.getfield 22, 3) := by decide +kernel
theorem dX9_felt_53 : decode cX9_felt 53 = .ok (.aload_n 0, 1) := by decide +kernel
theorem dX9_felt_54 : decode cX9_felt 54 = .ok (.getfield 241, 3) := by decide +kernel
theorem dX9_felt_57 : decode cX9_felt 57 = .ok (.iload_n 2, 1) := by decide +kernel
theorem dX9_felt_58 : decode cX9_felt 58 = .ok (.iastore, 1) := by decide +kernel
theorem dX9_felt_59 : decode cX9_felt 59 = .ok (.aload_n 0, 1) := by decide +kernel
theorem dX9_felt_60 : decode cX9_felt 60 = .ok (.dup, 1) := by decide +kernel
theorem dX9_felt_61 : decode cX9_felt 61 = .ok (.getfield 241, 3) := by decide +kernel
theorem dX9_felt_64 : decode cX9_felt 64 = .ok (.iconst 1, 1) := by decide +kernel
theorem dX9_felt_65 : decode cX9_felt 65 = .ok (.iadd, 1) := by decide +kernel
theorem dX9_felt_66 : decode cX9_felt 66 = .ok (.putfield 241, 3) := by decide +kernel
theorem dX9_felt_69 : decode cX9_felt 69 = .ok (.aload_n 0, 1) := by decide +kernel
theorem dX9_felt_70 : decode cX9_felt 70 = .ok (.getfield 241, 3) := by decide +kernel
theorem dX9_felt_73 : decode cX9_felt 73 = .ok (.ireturn, 1) := by decide +kernel
theorem dX9_forget_0 : decode cX9_forget 0 = .ok (.aload_n 0, 1) := by decide +kernel
theorem dX9_forget_1 : decode cX9_forget 1 = .ok (.getfield 241, 3) := by decide +kernel
theorem dX9_forget_4 : decode cX9_forget 4 = .ok (.istore_n 1, 1) := by decide +kernel
theorem dX9_forget_5 : decode cX9_forget 5 = .ok (.aload_n 0, 1) := by decide +kernel
theorem dX9_forget_6 : decode cX9_forget 6 = .ok (.iconst 0, 1) := by decide +kernel
theorem dX9_forget_7 : decode cX9_forget 7 = .ok (.putfield 241, 3) := by decide +kernel
theorem dX9_forget_10 : decode cX9_forget 10 = .ok (.iload_n 1, 1) := by decide +kernel
theorem dX9_forget_11 : decode cX9_forget 11 = .ok (.ireturn, 1) := by decide +kernel
theorem dX9_woolBy_0 : decode cX9_woolBy 0 = .ok (.bipush 99, 2) := by decide +kernel
theorem dX9_woolBy_2 : decode cX9_woolBy 2 = .ok (.iload_n 1, 1) := by decide +kernel
theorem dX9_woolBy_3 : decode cX9_woolBy 3 = .ok (.iload_n 0, 1) := by decide +kernel
theorem dX9_woolBy_4 : decode cX9_woolBy 4 = .ok (.bipush 10, 2) := by decide +kernel
theorem dX9_woolBy_6 : decode cX9_woolBy 6 = .ok (.idiv, 1) := by decide +kernel
theorem dX9_woolBy_7 : decode cX9_woolBy 7 = .ok (.imul, 1) := by decide +kernel
theorem dX9_woolBy_8 : decode cX9_woolBy 8 = .ok (.isub, 1) := by decide +kernel
theorem dX9_woolBy_9 : decode cX9_woolBy 9 = .ok (.iload_n 0, 1) := by decide +kernel
theorem dX9_woolBy_10 : decode cX9_woolBy 10 = .ok (.bipush 10, 2) := by decide +kernel
theorem dX9_woolBy_12 : decode cX9_woolBy 12 = .ok (.irem, 1) := by decide +kernel
theorem dX9_woolBy_13 : decode cX9_woolBy 13 = .ok (.iload_n 1, 1) := by decide +kernel
theorem dX9_woolBy_14 : decode cX9_woolBy 14 = .ok (.iconst 4, 1) := by decide +kernel
theorem dX9_woolBy_15 : decode cX9_woolBy 15 = .ok (.idiv, 1) := by decide +kernel
theorem dX9_woolBy_16 : decode cX9_woolBy 16 = .ok (.imul, 1) := by decide +kernel
theorem dX9_woolBy_17 : decode cX9_woolBy 17 = .ok (.isub, 1) := by decide +kernel
theorem dX9_woolBy_18 : decode cX9_woolBy 18 = .ok (.istore_n 2, 1) := by decide +kernel
theorem dX9_woolBy_19 : decode cX9_woolBy 19 = .ok (.iload_n 2, 1) := by decide +kernel
theorem dX9_woolBy_20 : decode cX9_woolBy 20 = .ok (.ifCond .ge 7, 3) := by decide +kernel
theorem dX9_woolBy_23 : decode cX9_woolBy 23 = .ok (.iconst 0, 1) := by decide +kernel
theorem dX9_woolBy_24 : decode cX9_woolBy 24 = .ok (.goto 4, 3) := by decide +kernel
theorem dX9_woolBy_27 : decode cX9_woolBy 27 = .ok (.iload_n 2, 1) := by decide +kernel
theorem dX9_woolBy_28 : decode cX9_woolBy 28 = .ok (.ireturn, 1) := by decide +kernel
set_option maxRecDepth 20000 in
theorem ggX9_isFit_X9_woolBy : GoodIn wsX9_isFit wsX9_woolBy := goodIn_r _ [7] rfl (by decide +kernel)
set_option maxRecDepth 20000 in
theorem gX9_isFit_X9_woolBy : GoodIn wsX9_isFit (va_wsS RX9 244 yX9_woolBy wsX9_woolBy) := goodIn_app (goodIn_r _ [4, 5, 6] rfl (by decide +kernel)) ggX9_isFit_X9_woolBy
theorem dX9_isFit_0 : decode cX9_isFit 0 = .ok (.iconst 1, 1) := by decide +kernel
theorem dX9_isFit_1 : decode cX9_isFit 1 = .ok (.istore_n 2, 1) := by decide +kernel
theorem dX9_isFit_2 : decode cX9_isFit 2 = .ok (.iconst 0, 1) := by decide +kernel
theorem dX9_isFit_3 : decode cX9_isFit 3 = .ok (.istore_n 3, 1) := by decide +kernel
theorem dX9_isFit_4 : decode cX9_isFit 4 = .ok (.iload_n 3, 1) := by decide +kernel
theorem dX9_isFit_5 : decode cX9_isFit 5 = .ok (.aload_n 0, 1) := by decide +kernel
theorem dX9_isFit_6 : decode cX9_isFit 6 = .ok (.getfield 241, 3) := by decide +kernel
theorem dX9_isFit_9 : decode cX9_isFit 9 = .ok (.if_icmp .ge 38, 3) := by decide +kernel
theorem dX9_isFit_12 : decode cX9_isFit 12 = .ok (.iload_n 2, 1) := by decide +kernel
theorem dX9_isFit_13 : decode cX9_isFit 13 = .ok (.ifCond .eq 26, 3) := by decide +kernel
theorem dX9_isFit_16 : decode cX9_isFit 16 = .ok (.iload_n 1, 1) := by decide +kernel
theorem dX9_isFit_17 : decode cX9_isFit 17 = .ok (.aload_n 0, 1) := by decide +kernel
theorem dX9_isFit_18 : decode cX9_isFit 18 = .ok (.getfield 19, 3) := by decide +kernel
theorem dX9_isFit_21 : decode cX9_isFit 21 = .ok (.iload_n 3, 1) := by decide +kernel
theorem dX9_isFit_22 : decode cX9_isFit 22 = .ok (.iaload, 1) := by decide +kernel
theorem dX9_isFit_23 : decode cX9_isFit 23 = .ok (.invokestatic 244, 3) := by decide +kernel
theorem dX9_isFit_26 : decode cX9_isFit 26 = .ok (.aload_n 0, 1) := by decide +kernel
theorem dX9_isFit_27 : decode cX9_isFit 27 = .ok (.getfield 22, 3) := by decide +kernel
theorem dX9_isFit_30 : decode cX9_isFit 30 = .ok (.iload_n 3, 1) := by decide +kernel
theorem dX9_isFit_31 : decode cX9_isFit 31 = .ok (.iaload, 1) := by decide +kernel
theorem dX9_isFit_32 : decode cX9_isFit 32 = .ok (.if_icmp .ne 7, 3) := by decide +kernel
theorem dX9_isFit_35 : decode cX9_isFit 35 = .ok (.iconst 1, 1) := by decide +kernel
theorem dX9_isFit_36 : decode cX9_isFit 36 = .ok (.goto 4, 3) := by decide +kernel
theorem dX9_isFit_39 : decode cX9_isFit 39 = .ok (.iconst 0, 1) := by decide +kernel
theorem dX9_isFit_40 : decode cX9_isFit 40 = .ok (.istore_n 2, 1) := by decide +kernel
theorem dX9_isFit_41 : decode cX9_isFit 41 = .ok (.iinc 3 1, 3) := by decide +kernel
theorem dX9_isFit_44 : decode cX9_isFit 44 = .ok (.goto (-40), 3) := by decide +kernel
theorem dX9_isFit_47 : decode cX9_isFit 47 = .ok (.iload_n 2, 1) := by decide +kernel
theorem dX9_isFit_48 : decode cX9_isFit 48 = .ok (.ireturn, 1) := by decide +kernel
set_option maxRecDepth 20000 in
theorem ggX9_fits_X9_isFit : GoodIn wsX9_fits wsX9_isFit := goodIn_r _ [5, 6, 7, 8, 9, 10, 4, 11, 12, 13, 14, 15, 16, 17, 18, 19, 20, 21, 22, 23, 24, 25, 26, 27, 28, 29, 30, 31, 32, 33, 34, 35, 36, 37, 38, 39, 40, 41] rfl (by decide +kernel)
set_option maxRecDepth 20000 in
theorem gX9_fits_X9_isFit : GoodIn wsX9_fits (wsV RX9 247 RX9 yX9_isFit wsX9_isFit) := goodIn_app (goodIn_r _ [1, 2, 3, 4] rfl (by decide +kernel)) ggX9_fits_X9_isFit
theorem dX9_fits_0 : decode cX9_fits 0 = .ok (.iconst 0, 1) := by decide +kernel
theorem dX9_fits_1 : decode cX9_fits 1 = .ok (.istore_n 2, 1) := by decide +kernel
theorem dX9_fits_2 : decode cX9_fits 2 = .ok (.bipush 10, 2) := by decide +kernel
theorem dX9_fits_4 : decode cX9_fits 4 = .ok (.istore_n 3, 1) := by decide +kernel
theorem dX9_fits_5 : decode cX9_fits 5 = .ok (.iload_n 3, 1) := by decide +kernel
theorem dX9_fits_6 : decode cX9_fits 6 = .ok (.bipush 100, 2) := by decide +kernel
theorem dX9_fits_8 : decode cX9_fits 8 = .ok (.if_icmp .ge 27, 3) := by decide +kernel
theorem dX9_fits_11 : decode cX9_fits 11 = .ok (.aload_n 0, 1) := by decide +kernel
theorem dX9_fits_12 : decode cX9_fits 12 = .ok (.iload_n 3, 1) := by decide +kernel
theorem dX9_fits_13 : decode cX9_fits 13 = .ok (.invokevirtual 247, 3) := by decide +kernel
theorem dX9_fits_16 : decode cX9_fits 16 = .ok (.ifCond .eq 13, 3) := by decide +kernel
theorem dX9_fits_19 : decode cX9_fits 19 = .ok (.iload_n 2, 1) := by decide +kernel
theorem dX9_fits_20 : decode cX9_fits 20 = .ok (.iload_n 1, 1) := by decide +kernel
theorem dX9_fits_21 : decode cX9_fits 21 = .ok (.if_icmp .ne 5, 3) := by decide +kernel
theorem dX9_fits_24 : decode cX9_fits 24 = .ok (.iload_n 3, 1) := by decide +kernel
theorem dX9_fits_25 : decode cX9_fits 25 = .ok (.ireturn, 1) := by decide +kernel
theorem dX9_fits_26 : decode cX9_fits 26 = .ok (.iinc 2 1, 3) := by decide +kernel
theorem dX9_fits_29 : decode cX9_fits 29 = .ok (.iinc 3 1, 3) := by decide +kernel
theorem dX9_fits_32 : decode cX9_fits 32 = .ok (.goto (-27), 3) := by decide +kernel
theorem dX9_fits_35 : decode cX9_fits 35 = .ok (.iload_n 1, 1) := by decide +kernel
theorem dX9_fits_36 : decode cX9_fits 36 = .ok (.iconst (-1), 1) := by decide +kernel
theorem dX9_fits_37 : decode cX9_fits 37 = .ok (.if_icmp .ne 7, 3) := by decide +kernel
theorem dX9_fits_40 : decode cX9_fits 40 = .ok (.iload_n 2, 1) := by decide +kernel
theorem dX9_fits_41 : decode cX9_fits 41 = .ok (.goto 5, 3) := by decide +kernel
theorem dX9_fits_44 : decode cX9_fits 44 = .ok (.bipush (-6), 2) := by decide +kernel
theorem dX9_fits_46 : decode cX9_fits 46 = .ok (.ireturn, 1) := by decide +kernel
set_option maxRecDepth 20000 in
theorem ggX9_mostLeft_X9_isFit : GoodIn wsX9_mostLeft wsX9_isFit := goodIn_r _ [6, 7, 8, 9, 10, 11, 5, 12, 13, 14, 15, 16, 17, 18, 19, 20, 21, 22, 23, 24, 25, 26, 27, 28, 29, 30, 31, 32, 33, 34, 35, 36, 37, 38, 39, 40, 41, 42] rfl (by decide +kernel)
set_option maxRecDepth 20000 in
theorem gX9_mostLeft_X9_isFit : GoodIn wsX9_mostLeft (wsV RX9 247 RX9 yX9_isFit wsX9_isFit) := goodIn_app (goodIn_r _ [2, 3, 4, 5] rfl (by decide +kernel)) ggX9_mostLeft_X9_isFit
set_option maxRecDepth 20000 in
theorem ggX9_mostLeft_X9_woolBy : GoodIn wsX9_mostLeft wsX9_woolBy := goodIn_r _ [12] rfl (by decide +kernel)
set_option maxRecDepth 20000 in
theorem gX9_mostLeft_X9_woolBy : GoodIn wsX9_mostLeft (va_wsS RX9 244 yX9_woolBy wsX9_woolBy) := goodIn_app (goodIn_r _ [10, 11, 5] rfl (by decide +kernel)) ggX9_mostLeft_X9_woolBy
theorem dX9_mostLeft_0 : decode cX9_mostLeft 0 = .ok (.iconst 0, 1) := by decide +kernel
theorem dX9_mostLeft_1 : decode cX9_mostLeft 1 = .ok (.istore_n 2, 1) := by decide +kernel
theorem dX9_mostLeft_2 : decode cX9_mostLeft 2 = .ok (.iconst 0, 1) := by decide +kernel
theorem dX9_mostLeft_3 : decode cX9_mostLeft 3 = .ok (.istore_n 3, 1) := by decide +kernel
theorem dX9_mostLeft_4 : decode cX9_mostLeft 4 = .ok (.iload_n 3, 1) := by decide +kernel
theorem dX9_mostLeft_5 : decode cX9_mostLeft 5 = .ok (.bipush 100, 2) := by decide +kernel
theorem dX9_mostLeft_7 : decode cX9_mostLeft 7 = .ok (.if_icmp .ge 16, 3) := by decide +kernel
theorem dX9_mostLeft_10 : decode cX9_mostLeft 10 = .ok (.aload_n 0, 1) := by decide +kernel
theorem dX9_mostLeft_11 : decode cX9_mostLeft 11 = .ok (.getfield 50, 3) := by decide +kernel
theorem dX9_mostLeft_14 : decode cX9_mostLeft 14 = .ok (.iload_n 3, 1) := by decide +kernel
theorem dX9_mostLeft_15 : decode cX9_mostLeft 15 = .ok (.iconst 0, 1) := by decide +kernel
theorem dX9_mostLeft_16 : decode cX9_mostLeft 16 = .ok (.iastore, 1) := by decide +kernel
theorem dX9_mostLeft_17 : decode cX9_mostLeft 17 = .ok (.iinc 3 1, 3) := by decide +kernel
theorem dX9_mostLeft_20 : decode cX9_mostLeft 20 = .ok (.goto (-16), 3) := by decide +kernel
theorem dX9_mostLeft_23 : decode cX9_mostLeft 23 = .ok (.bipush 10, 2) := by decide +kernel
theorem dX9_mostLeft_25 : decode cX9_mostLeft 25 = .ok (.istore_n 3, 1) := by decide +kernel
theorem dX9_mostLeft_26 : decode cX9_mostLeft 26 = .ok (.iload_n 3, 1) := by decide +kernel
theorem dX9_mostLeft_27 : decode cX9_mostLeft 27 = .ok (.bipush 100, 2) := by decide +kernel
theorem dX9_mostLeft_29 : decode cX9_mostLeft 29 = .ok (.if_icmp .ge 60, 3) := by decide +kernel
theorem dX9_mostLeft_32 : decode cX9_mostLeft 32 = .ok (.aload_n 0, 1) := by decide +kernel
theorem dX9_mostLeft_33 : decode cX9_mostLeft 33 = .ok (.iload_n 3, 1) := by decide +kernel
theorem dX9_mostLeft_34 : decode cX9_mostLeft 34 = .ok (.invokevirtual 247, 3) := by decide +kernel
theorem dX9_mostLeft_37 : decode cX9_mostLeft 37 = .ok (.ifCond .eq 46, 3) := by decide +kernel
theorem dX9_mostLeft_40 : decode cX9_mostLeft 40 = .ok (.aload_n 0, 1) := by decide +kernel
theorem dX9_mostLeft_41 : decode cX9_mostLeft 41 = .ok (.getfield 50, 3) := by decide +kernel
theorem dX9_mostLeft_44 : decode cX9_mostLeft 44 = .ok (.iload_n 3, 1) := by decide +kernel
theorem dX9_mostLeft_45 : decode cX9_mostLeft 45 = .ok (.iload_n 1, 1) := by decide +kernel
theorem dX9_mostLeft_46 : decode cX9_mostLeft 46 = .ok (.invokestatic 244, 3) := by decide +kernel
theorem dX9_mostLeft_49 : decode cX9_mostLeft 49 = .ok (.dup2, 1) := by decide +kernel
theorem dX9_mostLeft_50 : decode cX9_mostLeft 50 = .ok (.iaload, 1) := by decide +kernel
theorem dX9_mostLeft_51 : decode cX9_mostLeft 51 = .ok (.iconst 1, 1) := by decide +kernel
theorem dX9_mostLeft_52 : decode cX9_mostLeft 52 = .ok (.iadd, 1) := by decide +kernel
theorem dX9_mostLeft_53 : decode cX9_mostLeft 53 = .ok (.iastore, 1) := by decide +kernel
theorem dX9_mostLeft_54 : decode cX9_mostLeft 54 = .ok (.aload_n 0, 1) := by decide +kernel
theorem dX9_mostLeft_55 : decode cX9_mostLeft 55 = .ok (.getfield 50, 3) := by decide +kernel
theorem dX9_mostLeft_58 : decode cX9_mostLeft 58 = .ok (.iload_n 3, 1) := by decide +kernel
theorem dX9_mostLeft_59 : decode cX9_mostLeft 59 = .ok (.iload_n 1, 1) := by decide +kernel
theorem dX9_mostLeft_60 : decode cX9_mostLeft 60 = .ok (.invokestatic 244, 3) := by decide +kernel
theorem dX9_mostLeft_63 : decode cX9_mostLeft 63 = .ok (.iaload, 1) := by decide +kernel
theorem dX9_mostLeft_64 : decode cX9_mostLeft 64 = .ok (.iload_n 2, 1) := by decide +kernel
theorem dX9_mostLeft_65 : decode cX9_mostLeft 65 = .ok (.if_icmp .le 16, 3) := by decide +kernel
theorem dX9_mostLeft_68 : decode cX9_mostLeft 68 = .ok (.aload_n 0, 1) := by decide +kernel
theorem dX9_mostLeft_69 : decode cX9_mostLeft 69 = .ok (.getfield 50, 3) := by decide +kernel
theorem dX9_mostLeft_72 : decode cX9_mostLeft 72 = .ok (.iload_n 3, 1) := by decide +kernel
theorem dX9_mostLeft_73 : decode cX9_mostLeft 73 = .ok (.iload_n 1, 1) := by decide +kernel
theorem dX9_mostLeft_74 : decode cX9_mostLeft 74 = .ok (.invokestatic 244, 3) := by decide +kernel
theorem dX9_mostLeft_77 : decode cX9_mostLeft 77 = .ok (.iaload, 1) := by decide +kernel
theorem dX9_mostLeft_78 : decode cX9_mostLeft 78 = .ok (.goto 4, 3) := by decide +kernel
theorem dX9_mostLeft_81 : decode cX9_mostLeft 81 = .ok (.iload_n 2, 1) := by decide +kernel
theorem dX9_mostLeft_82 : decode cX9_mostLeft 82 = .ok (.istore_n 2, 1) := by decide +kernel
theorem dX9_mostLeft_83 : decode cX9_mostLeft 83 = .ok (.iinc 3 1, 3) := by decide +kernel
theorem dX9_mostLeft_86 : decode cX9_mostLeft 86 = .ok (.goto (-60), 3) := by decide +kernel
theorem dX9_mostLeft_89 : decode cX9_mostLeft 89 = .ok (.iload_n 2, 1) := by decide +kernel
theorem dX9_mostLeft_90 : decode cX9_mostLeft 90 = .ok (.ireturn, 1) := by decide +kernel
set_option maxRecDepth 20000 in
theorem ggX9_ask_X9_in : GoodIn wsX9_ask wsX9_in := goodIn_r _ [4] rfl (by decide +kernel)
set_option maxRecDepth 20000 in
theorem gX9_ask_X9_in : GoodIn wsX9_ask (va_wsS RX9 71 yX9_in wsX9_in) := goodIn_app (goodIn_r _ [1, 2, 3] rfl (by decide +kernel)) ggX9_ask_X9_in
set_option maxRecDepth 20000 in
theorem ggX9_ask_X9_mostLeft : GoodIn wsX9_ask wsX9_mostLeft := goodIn_r _ [8, 9, 10, 11, 12, 3, 13, 14, 15, 16, 17, 18, 19, 23, 24, 25, 26, 27, 28, 29, 30, 31, 32, 33, 34, 35, 36, 37, 38, 39, 40, 41, 42, 43, 44, 45, 46, 47, 48, 49, 50, 51, 52] rfl (by decide +kernel)
set_option maxRecDepth 20000 in
theorem gX9_ask_X9_mostLeft : GoodIn wsX9_ask (wsV RX9 250 RX9 yX9_mostLeft wsX9_mostLeft) := goodIn_app (goodIn_r _ [5, 6, 7, 3] rfl (by decide +kernel)) ggX9_ask_X9_mostLeft
set_option maxRecDepth 20000 in
theorem ggX9_ask_X9_less : GoodIn wsX9_ask wsX9_less := goodIn_r _ [22] rfl (by decide +kernel)
set_option maxRecDepth 20000 in
theorem gX9_ask_X9_less : GoodIn wsX9_ask (va_wsS RX9 141 yX9_less wsX9_less) := goodIn_app (goodIn_r _ [20, 21, 3] rfl (by decide +kernel)) ggX9_ask_X9_less
theorem dX9_ask_0 : decode cX9_ask 0 = .ok (.iload_n 1, 1) := by decide +kernel
theorem dX9_ask_1 : decode cX9_ask 1 = .ok (.i2l, 1) := by decide +kernel
theorem dX9_ask_2 : decode cX9_ask 2 = .ok (.lconst 0, 1) := by decide +kernel
theorem dX9_ask_3 : decode cX9_ask 3 = .ok (.lconst 1, 1) := by decide +kernel
theorem dX9_ask_4 : decode cX9_ask 4 = .ok (.invokestatic 71, 3) := by decide +kernel
theorem dX9_ask_7 : decode cX9_ask 7 = .ok (.ifCond .ne 6, 3) := by decide +kernel
theorem dX9_ask_10 : decode cX9_ask 10 = .ok (.bipush (-2), 2) := by decide +kernel
theorem dX9_ask_12 : decode cX9_ask 12 = .ok (.ireturn, 1) := by decide +kernel
theorem dX9_ask_13 : decode cX9_ask 13 = .ok (.iconst 0, 1) := by decide +kernel
theorem dX9_ask_14 : decode cX9_ask 14 = .ok (.istore_n 2, 1) := by decide +kernel
theorem dX9_ask_15 : decode cX9_ask 15 = .ok (.aload_n 0, 1) := by decide +kernel
theorem dX9_ask_16 : decode cX9_ask 16 = .ok (.iconst 0, 1) := by decide +kernel
theorem dX9_ask_17 : decode cX9_ask 17 = .ok (.invokevirtual 250, 3) := by decide +kernel
theorem dX9_ask_20 : decode cX9_ask 20 = .ok (.istore_n 3, 1) := by decide +kernel
theorem dX9_ask_21 : decode cX9_ask 21 = .ok (.iconst 1, 1) := by decide +kernel
theorem dX9_ask_22 : decode cX9_ask 22 = .ok (.istore 4, 2) := by decide +kernel
theorem dX9_ask_24 : decode cX9_ask 24 = .ok (.iload 4, 2) := by decide +kernel
theorem dX9_ask_26 : decode cX9_ask 26 = .ok (.bipush 60, 2) := by decide +kernel
theorem dX9_ask_28 : decode cX9_ask 28 = .ok (.if_icmp .gt 37, 3) := by decide +kernel
theorem dX9_ask_31 : decode cX9_ask 31 = .ok (.aload_n 0, 1) := by decide +kernel
theorem dX9_ask_32 : decode cX9_ask 32 = .ok (.iload 4, 2) := by decide +kernel
theorem dX9_ask_34 : decode cX9_ask 34 = .ok (.invokevirtual 250, 3) := by decide +kernel
theorem dX9_ask_37 : decode cX9_ask 37 = .ok (.istore 5, 2) := by decide +kernel
theorem dX9_ask_39 : decode cX9_ask 39 = .ok (.iload 5, 2) := by decide +kernel
theorem dX9_ask_41 : decode cX9_ask 41 = .ok (.iload_n 3, 1) := by decide +kernel
theorem dX9_ask_42 : decode cX9_ask 42 = .ok (.if_icmp .ge 8, 3) := by decide +kernel
theorem dX9_ask_45 : decode cX9_ask 45 = .ok (.iload 4, 2) := by decide +kernel
theorem dX9_ask_47 : decode cX9_ask 47 = .ok (.goto 4, 3) := by decide +kernel
theorem dX9_ask_50 : decode cX9_ask 50 = .ok (.iload_n 2, 1) := by decide +kernel
theorem dX9_ask_51 : decode cX9_ask 51 = .ok (.istore_n 2, 1) := by decide +kernel
theorem dX9_ask_52 : decode cX9_ask 52 = .ok (.iload_n 3, 1) := by decide +kernel
theorem dX9_ask_53 : decode cX9_ask 53 = .ok (.iload 5, 2) := by decide +kernel
theorem dX9_ask_55 : decode cX9_ask 55 = .ok (.invokestatic 141, 3) := by decide +kernel
theorem dX9_ask_58 : decode cX9_ask 58 = .ok (.istore_n 3, 1) := by decide +kernel
theorem dX9_ask_59 : decode cX9_ask 59 = .ok (.iinc 4 1, 3) := by decide +kernel
theorem dX9_ask_62 : decode cX9_ask 62 = .ok (.goto (-38), 3) := by decide +kernel
theorem dX9_ask_65 : decode cX9_ask 65 = .ok (.iload_n 3, 1) := by decide +kernel
theorem dX9_ask_66 : decode cX9_ask 66 = .ok (.ifCond .ne 8, 3) := by decide +kernel
theorem dX9_ask_69 : decode cX9_ask 69 = .ok (.bipush (-6), 2) := by decide +kernel
theorem dX9_ask_71 : decode cX9_ask 71 = .ok (.goto 12, 3) := by decide +kernel
theorem dX9_ask_74 : decode cX9_ask 74 = .ok (.iload_n 1, 1) := by decide +kernel
theorem dX9_ask_75 : decode cX9_ask 75 = .ok (.ifCond .ne 7, 3) := by decide +kernel
theorem dX9_ask_78 : decode cX9_ask 78 = .ok (.iload_n 2, 1) := by decide +kernel
theorem dX9_ask_79 : decode cX9_ask 79 = .ok (.goto 4, 3) := by decide +kernel
theorem dX9_ask_82 : decode cX9_ask 82 = .ok (.iload_n 3, 1) := by decide +kernel
theorem dX9_ask_83 : decode cX9_ask 83 = .ok (.ireturn, 1) := by decide +kernel
set_option maxRecDepth 20000 in
theorem ggX9_leastPick_X9_has : GoodIn wsX9_leastPick wsX9_has := goodIn_r _ [5] rfl (by decide +kernel)
set_option maxRecDepth 20000 in
theorem gX9_leastPick_X9_has : GoodIn wsX9_leastPick (va_wsS RX9 87 yX9_has wsX9_has) := goodIn_app (goodIn_r _ [2, 3, 4] rfl (by decide +kernel)) ggX9_leastPick_X9_has
theorem dX9_leastPick_0 : decode cX9_leastPick 0 = .ok (.bipush (-6), 2) := by decide +kernel
theorem dX9_leastPick_2 : decode cX9_leastPick 2 = .ok (.istore_n 2, 1) := by decide +kernel
theorem dX9_leastPick_3 : decode cX9_leastPick 3 = .ok (.bipush 7, 2) := by decide +kernel
theorem dX9_leastPick_5 : decode cX9_leastPick 5 = .ok (.istore_n 3, 1) := by decide +kernel
theorem dX9_leastPick_6 : decode cX9_leastPick 6 = .ok (.iload_n 3, 1) := by decide +kernel
theorem dX9_leastPick_7 : decode cX9_leastPick 7 = .ok (.ifCond .lt 104, 3) := by decide +kernel
theorem dX9_leastPick_10 : decode cX9_leastPick 10 = .ok (.iconst 3, 1) := by decide +kernel
theorem dX9_leastPick_11 : decode cX9_leastPick 11 = .ok (.iload_n 3, 1) := by decide +kernel
theorem dX9_leastPick_12 : decode cX9_leastPick 12 = .ok (.ishl, 1) := by decide +kernel
theorem dX9_leastPick_13 : decode cX9_leastPick 13 = .ok (.istore 4, 2) := by decide +kernel
theorem dX9_leastPick_15 : decode cX9_leastPick 15 = .ok (.iload_n 3, 1) := by decide +kernel
theorem dX9_leastPick_16 : decode cX9_leastPick 16 = .ok (.bipush 7, 2) := by decide +kernel
theorem dX9_leastPick_18 : decode cX9_leastPick 18 = .ok (.if_icmp .ge 16, 3) := by decide +kernel
theorem dX9_leastPick_21 : decode cX9_leastPick 21 = .ok (.iload_n 1, 1) := by decide +kernel
theorem dX9_leastPick_22 : decode cX9_leastPick 22 = .ok (.iload 4, 2) := by decide +kernel
theorem dX9_leastPick_24 : decode cX9_leastPick 24 = .ok (.iand, 1) := by decide +kernel
theorem dX9_leastPick_25 : decode cX9_leastPick 25 = .ok (.iload 4, 2) := by decide +kernel
theorem dX9_leastPick_27 : decode cX9_leastPick 27 = .ok (.if_icmp .ne 7, 3) := by decide +kernel
theorem dX9_leastPick_30 : decode cX9_leastPick 30 = .ok (.iconst 1, 1) := by decide +kernel
theorem dX9_leastPick_31 : decode cX9_leastPick 31 = .ok (.goto 4, 3) := by decide +kernel
theorem dX9_leastPick_34 : decode cX9_leastPick 34 = .ok (.iconst 0, 1) := by decide +kernel
theorem dX9_leastPick_35 : decode cX9_leastPick 35 = .ok (.istore 5, 2) := by decide +kernel
theorem dX9_leastPick_37 : decode cX9_leastPick 37 = .ok (.iload 5, 2) := by decide +kernel
theorem dX9_leastPick_39 : decode cX9_leastPick 39 = .ok (.ifCond .eq 30, 3) := by decide +kernel
theorem dX9_leastPick_42 : decode cX9_leastPick 42 = .ok (.aload_n 0, 1) := by decide +kernel
theorem dX9_leastPick_43 : decode cX9_leastPick 43 = .ok (.getfield 53, 3) := by decide +kernel
theorem dX9_leastPick_46 : decode cX9_leastPick 46 = .ok (.iload_n 1, 1) := by decide +kernel
theorem dX9_leastPick_47 : decode cX9_leastPick 47 = .ok (.iload 4, 2) := by decide +kernel
theorem dX9_leastPick_49 : decode cX9_leastPick 49 = .ok (.iconst (-1), 1) := by decide +kernel
theorem dX9_leastPick_50 : decode cX9_leastPick 50 = .ok (.ixor, 1) := by decide +kernel
theorem dX9_leastPick_51 : decode cX9_leastPick 51 = .ok (.iand, 1) := by decide +kernel
theorem dX9_leastPick_52 : decode cX9_leastPick 52 = .ok (.sipush 255, 3) := by decide +kernel
theorem dX9_leastPick_55 : decode cX9_leastPick 55 = .ok (.iand, 1) := by decide +kernel
theorem dX9_leastPick_56 : decode cX9_leastPick 56 = .ok (.baload, 1) := by decide +kernel
theorem dX9_leastPick_57 : decode cX9_leastPick 57 = .ok (.ifCond .ne 12, 3) := by decide +kernel
theorem dX9_leastPick_60 : decode cX9_leastPick 60 = .ok (.bipush 10, 2) := by decide +kernel
theorem dX9_leastPick_62 : decode cX9_leastPick 62 = .ok (.iload_n 3, 1) := by decide +kernel
theorem dX9_leastPick_63 : decode cX9_leastPick 63 = .ok (.imul, 1) := by decide +kernel
theorem dX9_leastPick_64 : decode cX9_leastPick 64 = .ok (.iconst 2, 1) := by decide +kernel
theorem dX9_leastPick_65 : decode cX9_leastPick 65 = .ok (.iadd, 1) := by decide +kernel
theorem dX9_leastPick_66 : decode cX9_leastPick 66 = .ok (.goto 4, 3) := by decide +kernel
theorem dX9_leastPick_69 : decode cX9_leastPick 69 = .ok (.iload_n 2, 1) := by decide +kernel
theorem dX9_leastPick_70 : decode cX9_leastPick 70 = .ok (.istore_n 2, 1) := by decide +kernel
theorem dX9_leastPick_71 : decode cX9_leastPick 71 = .ok (.iload_n 1, 1) := by decide +kernel
theorem dX9_leastPick_72 : decode cX9_leastPick 72 = .ok (.iload_n 3, 1) := by decide +kernel
theorem dX9_leastPick_73 : decode cX9_leastPick 73 = .ok (.invokestatic 87, 3) := by decide +kernel
theorem dX9_leastPick_76 : decode cX9_leastPick 76 = .ok (.ifCond .eq 27, 3) := by decide +kernel
theorem dX9_leastPick_79 : decode cX9_leastPick 79 = .ok (.aload_n 0, 1) := by decide +kernel
theorem dX9_leastPick_80 : decode cX9_leastPick 80 = .ok (.getfield 53, 3) := by decide +kernel
theorem dX9_leastPick_83 : decode cX9_leastPick 83 = .ok (.iload_n 1, 1) := by decide +kernel
theorem dX9_leastPick_84 : decode cX9_leastPick 84 = .ok (.iconst 1, 1) := by decide +kernel
theorem dX9_leastPick_85 : decode cX9_leastPick 85 = .ok (.iload_n 3, 1) := by decide +kernel
theorem dX9_leastPick_86 : decode cX9_leastPick 86 = .ok (.ishl, 1) := by decide +kernel
theorem dX9_leastPick_87 : decode cX9_leastPick 87 = .ok (.iconst (-1), 1) := by decide +kernel
theorem dX9_leastPick_88 : decode cX9_leastPick 88 = .ok (.ixor, 1) := by decide +kernel
theorem dX9_leastPick_89 : decode cX9_leastPick 89 = .ok (.iand, 1) := by decide +kernel
theorem dX9_leastPick_90 : decode cX9_leastPick 90 = .ok (.baload, 1) := by decide +kernel
theorem dX9_leastPick_91 : decode cX9_leastPick 91 = .ok (.ifCond .ne 12, 3) := by decide +kernel
theorem dX9_leastPick_94 : decode cX9_leastPick 94 = .ok (.bipush 10, 2) := by decide +kernel
theorem dX9_leastPick_96 : decode cX9_leastPick 96 = .ok (.iload_n 3, 1) := by decide +kernel
theorem dX9_leastPick_97 : decode cX9_leastPick 97 = .ok (.imul, 1) := by decide +kernel
theorem dX9_leastPick_98 : decode cX9_leastPick 98 = .ok (.iconst 1, 1) := by decide +kernel
theorem dX9_leastPick_99 : decode cX9_leastPick 99 = .ok (.iadd, 1) := by decide +kernel
theorem dX9_leastPick_100 : decode cX9_leastPick 100 = .ok (.goto 4, 3) := by decide +kernel
theorem dX9_leastPick_103 : decode cX9_leastPick 103 = .ok (.iload_n 2, 1) := by decide +kernel
theorem dX9_leastPick_104 : decode cX9_leastPick 104 = .ok (.istore_n 2, 1) := by decide +kernel
theorem dX9_leastPick_105 : decode cX9_leastPick 105 = .ok (.iinc 3 (-1), 3) := by decide +kernel
theorem dX9_leastPick_108 : decode cX9_leastPick 108 = .ok (.goto (-102), 3) := by decide +kernel
theorem dX9_leastPick_111 : decode cX9_leastPick 111 = .ok (.iload_n 2, 1) := by decide +kernel
theorem dX9_leastPick_112 : decode cX9_leastPick 112 = .ok (.ireturn, 1) := by decide +kernel
set_option maxRecDepth 20000 in
theorem ggX9_unpick_X9_isHassock : GoodIn wsX9_unpick wsX9_isHassock := goodIn_r _ [7, 8, 9, 10, 6, 11] rfl (by decide +kernel)
set_option maxRecDepth 20000 in
theorem gX9_unpick_X9_isHassock : GoodIn wsX9_unpick (va_wsS RX9 75 yX9_isHassock wsX9_isHassock) := goodIn_app (goodIn_r _ [4, 5, 6] rfl (by decide +kernel)) ggX9_unpick_X9_isHassock
set_option maxRecDepth 20000 in
theorem ggX9_unpick_X9_has : GoodIn wsX9_unpick wsX9_has := goodIn_r _ [14] rfl (by decide +kernel)
set_option maxRecDepth 20000 in
theorem gX9_unpick_X9_has : GoodIn wsX9_unpick (va_wsS RX9 87 yX9_has wsX9_has) := goodIn_app (goodIn_r _ [12, 13, 6] rfl (by decide +kernel)) ggX9_unpick_X9_has
set_option maxRecDepth 20000 in
theorem ggX9_unpick_X9_in : GoodIn wsX9_unpick wsX9_in := goodIn_r _ [11] rfl (by decide +kernel)
set_option maxRecDepth 20000 in
theorem gX9_unpick_X9_in : GoodIn wsX9_unpick (va_wsS RX9 71 yX9_in wsX9_in) := goodIn_app (goodIn_r _ [9, 10, 6] rfl (by decide +kernel)) ggX9_unpick_X9_in
set_option maxRecDepth 20000 in
theorem ggX9_unpick_X9_leastPick : GoodIn wsX9_unpick wsX9_leastPick := goodIn_r _ [18, 3, 12, 13, 6, 14, 19, 20, 21, 22, 23, 24, 25, 26, 27, 28, 29, 30, 31, 32, 33, 34, 35, 36, 37, 38, 39, 40, 41, 42, 43, 44, 45, 46, 47, 48] rfl (by decide +kernel)
set_option maxRecDepth 20000 in
theorem gX9_unpick_X9_leastPick : GoodIn wsX9_unpick (wsV RX9 253 RX9 yX9_leastPick wsX9_leastPick) := goodIn_app (goodIn_r _ [15, 16, 17, 6] rfl (by decide +kernel)) ggX9_unpick_X9_leastPick
theorem dX9_unpick_0 : decode cX9_unpick 0 = .ok (.iload_n 1, 1) := by decide +kernel
theorem dX9_unpick_1 : decode cX9_unpick 1 = .ok (.invokestatic 75, 3) := by decide +kernel
theorem dX9_unpick_4 : decode cX9_unpick 4 = .ok (.ifCond .eq 14, 3) := by decide +kernel
theorem dX9_unpick_7 : decode cX9_unpick 7 = .ok (.aload_n 0, 1) := by decide +kernel
theorem dX9_unpick_8 : decode cX9_unpick 8 = .ok (.getfield 62, 3) := by decide +kernel
theorem dX9_unpick_11 : decode cX9_unpick 11 = .ok (.iload_n 1, 1) := by decide +kernel
theorem dX9_unpick_12 : decode cX9_unpick 12 = .ok (.invokestatic 87, 3) := by decide +kernel
theorem dX9_unpick_15 : decode cX9_unpick 15 = .ok (.ifCond .ne 5, 3) := by decide +kernel
theorem dX9_unpick_18 : decode cX9_unpick 18 = .ok (.iconst (-1), 1) := by decide +kernel
theorem dX9_unpick_19 : decode cX9_unpick 19 = .ok (.ireturn, 1) := by decide +kernel
theorem dX9_unpick_20 : decode cX9_unpick 20 = .ok (.iload_n 2, 1) := by decide +kernel
theorem dX9_unpick_21 : decode cX9_unpick 21 = .ok (.i2l, 1) := by decide +kernel
theorem dX9_unpick_22 : decode cX9_unpick 22 = .ok (.lconst 0, 1) := by decide +kernel
theorem dX9_unpick_23 : decode cX9_unpick 23 = .ok (.lconst 1, 1) := by decide +kernel
theorem dX9_unpick_24 : decode cX9_unpick 24 = .ok (.invokestatic 71, 3) := by decide +kernel
theorem dX9_unpick_27 : decode cX9_unpick 27 = .ok (.ifCond .ne 6, 3) := by decide +kernel
theorem dX9_unpick_30 : decode cX9_unpick 30 = .ok (.bipush (-2), 2) := by decide +kernel
theorem dX9_unpick_32 : decode cX9_unpick 32 = .ok (.ireturn, 1) := by decide +kernel
theorem dX9_unpick_33 : decode cX9_unpick 33 = .ok (.aload_n 0, 1) := by decide +kernel
theorem dX9_unpick_34 : decode cX9_unpick 34 = .ok (.getfield 13, 3) := by decide +kernel
theorem dX9_unpick_37 : decode cX9_unpick 37 = .ok (.iload_n 1, 1) := by decide +kernel
theorem dX9_unpick_38 : decode cX9_unpick 38 = .ok (.iaload, 1) := by decide +kernel
theorem dX9_unpick_39 : decode cX9_unpick 39 = .ok (.istore_n 3, 1) := by decide +kernel
theorem dX9_unpick_40 : decode cX9_unpick 40 = .ok (.iconst 0, 1) := by decide +kernel
theorem dX9_unpick_41 : decode cX9_unpick 41 = .ok (.istore 4, 2) := by decide +kernel
theorem dX9_unpick_43 : decode cX9_unpick 43 = .ok (.iload 4, 2) := by decide +kernel
theorem dX9_unpick_45 : decode cX9_unpick 45 = .ok (.iload_n 3, 1) := by decide +kernel
theorem dX9_unpick_46 : decode cX9_unpick 46 = .ok (.if_icmp .gt 30, 3) := by decide +kernel
theorem dX9_unpick_49 : decode cX9_unpick 49 = .ok (.aload_n 0, 1) := by decide +kernel
theorem dX9_unpick_50 : decode cX9_unpick 50 = .ok (.getfield 53, 3) := by decide +kernel
theorem dX9_unpick_53 : decode cX9_unpick 53 = .ok (.iload 4, 2) := by decide +kernel
theorem dX9_unpick_55 : decode cX9_unpick 55 = .ok (.aload_n 0, 1) := by decide +kernel
theorem dX9_unpick_56 : decode cX9_unpick 56 = .ok (.iload 4, 2) := by decide +kernel
theorem dX9_unpick_58 : decode cX9_unpick 58 = .ok (.invokevirtual 253, 3) := by decide +kernel
theorem dX9_unpick_61 : decode cX9_unpick 61 = .ok (.ifCond .lt 7, 3) := by decide +kernel
theorem dX9_unpick_64 : decode cX9_unpick 64 = .ok (.iconst 1, 1) := by decide +kernel
theorem dX9_unpick_65 : decode cX9_unpick 65 = .ok (.goto 4, 3) := by decide +kernel
theorem dX9_unpick_68 : decode cX9_unpick 68 = .ok (.iconst 0, 1) := by decide +kernel
theorem dX9_unpick_69 : decode cX9_unpick 69 = .ok (.bastore, 1) := by decide +kernel
theorem dX9_unpick_70 : decode cX9_unpick 70 = .ok (.iinc 4 1, 3) := by decide +kernel
theorem dX9_unpick_73 : decode cX9_unpick 73 = .ok (.goto (-30), 3) := by decide +kernel
theorem dX9_unpick_76 : decode cX9_unpick 76 = .ok (.iload_n 2, 1) := by decide +kernel
theorem dX9_unpick_77 : decode cX9_unpick 77 = .ok (.iconst 1, 1) := by decide +kernel
theorem dX9_unpick_78 : decode cX9_unpick 78 = .ok (.if_icmp .ne 11, 3) := by decide +kernel
theorem dX9_unpick_81 : decode cX9_unpick 81 = .ok (.aload_n 0, 1) := by decide +kernel
theorem dX9_unpick_82 : decode cX9_unpick 82 = .ok (.iload_n 3, 1) := by decide +kernel
theorem dX9_unpick_83 : decode cX9_unpick 83 = .ok (.invokevirtual 253, 3) := by decide +kernel
theorem dX9_unpick_86 : decode cX9_unpick 86 = .ok (.goto 17, 3) := by decide +kernel
theorem dX9_unpick_89 : decode cX9_unpick 89 = .ok (.aload_n 0, 1) := by decide +kernel
theorem dX9_unpick_90 : decode cX9_unpick 90 = .ok (.getfield 53, 3) := by decide +kernel
theorem dX9_unpick_93 : decode cX9_unpick 93 = .ok (.iload_n 3, 1) := by decide +kernel
theorem dX9_unpick_94 : decode cX9_unpick 94 = .ok (.baload, 1) := by decide +kernel
theorem dX9_unpick_95 : decode cX9_unpick 95 = .ok (.ifCond .eq 7, 3) := by decide +kernel
theorem dX9_unpick_98 : decode cX9_unpick 98 = .ok (.iconst 1, 1) := by decide +kernel
theorem dX9_unpick_99 : decode cX9_unpick 99 = .ok (.goto 4, 3) := by decide +kernel
theorem dX9_unpick_102 : decode cX9_unpick 102 = .ok (.iconst 0, 1) := by decide +kernel
theorem dX9_unpick_103 : decode cX9_unpick 103 = .ok (.ireturn, 1) := by decide +kernel
theorem dX9_lowest_0 : decode cX9_lowest 0 = .ok (.lload_n 2, 1) := by decide +kernel
theorem dX9_lowest_1 : decode cX9_lowest 1 = .ok (.lstore 5, 2) := by decide +kernel
theorem dX9_lowest_3 : decode cX9_lowest 3 = .ok (.lload_n 0, 1) := by decide +kernel
theorem dX9_lowest_4 : decode cX9_lowest 4 = .ok (.lstore 7, 2) := by decide +kernel
theorem dX9_lowest_6 : decode cX9_lowest 6 = .ok (.lload 7, 2) := by decide +kernel
theorem dX9_lowest_8 : decode cX9_lowest 8 = .ok (.lconst 0, 1) := by decide +kernel
theorem dX9_lowest_9 : decode cX9_lowest 9 = .ok (.lcmp, 1) := by decide +kernel
theorem dX9_lowest_10 : decode cX9_lowest 10 = .ok (.ifCond .eq 21, 3) := by decide +kernel
theorem dX9_lowest_13 : decode cX9_lowest 13 = .ok (.lload 5, 2) := by decide +kernel
theorem dX9_lowest_15 : decode cX9_lowest 15 = .ok (.lload 7, 2) := by decide +kernel
theorem dX9_lowest_17 : decode cX9_lowest 17 = .ok (.lrem, 1) := by decide +kernel
theorem dX9_lowest_18 : decode cX9_lowest 18 = .ok (.lstore 9, 2) := by decide +kernel
theorem dX9_lowest_20 : decode cX9_lowest 20 = .ok (.lload 7, 2) := by decide +kernel
theorem dX9_lowest_22 : decode cX9_lowest 22 = .ok (.lstore 5, 2) := by decide +kernel
theorem dX9_lowest_24 : decode cX9_lowest 24 = .ok (.lload 9, 2) := by decide +kernel
theorem dX9_lowest_26 : decode cX9_lowest 26 = .ok (.lstore 7, 2) := by decide +kernel
theorem dX9_lowest_28 : decode cX9_lowest 28 = .ok (.goto (-22), 3) := by decide +kernel
theorem dX9_lowest_31 : decode cX9_lowest 31 = .ok (.iload 4, 2) := by decide +kernel
theorem dX9_lowest_33 : decode cX9_lowest 33 = .ok (.ifCond .ne 10, 3) := by decide +kernel
theorem dX9_lowest_36 : decode cX9_lowest 36 = .ok (.lload_n 0, 1) := by decide +kernel
theorem dX9_lowest_37 : decode cX9_lowest 37 = .ok (.lload 5, 2) := by decide +kernel
theorem dX9_lowest_39 : decode cX9_lowest 39 = .ok (.ldiv, 1) := by decide +kernel
theorem dX9_lowest_40 : decode cX9_lowest 40 = .ok (.goto 7, 3) := by decide +kernel
theorem dX9_lowest_43 : decode cX9_lowest 43 = .ok (.lload_n 2, 1) := by decide +kernel
theorem dX9_lowest_44 : decode cX9_lowest 44 = .ok (.lload 5, 2) := by decide +kernel
theorem dX9_lowest_46 : decode cX9_lowest 46 = .ok (.ldiv, 1) := by decide +kernel
theorem dX9_lowest_47 : decode cX9_lowest 47 = .ok (.lreturn, 1) := by decide +kernel
theorem dX9_power_0 : decode cX9_power 0 = .ok (.lconst 1, 1) := by decide +kernel
theorem dX9_power_1 : decode cX9_power 1 = .ok (.lstore_n 3, 1) := by decide +kernel
theorem dX9_power_2 : decode cX9_power 2 = .ok (.iconst 0, 1) := by decide +kernel
theorem dX9_power_3 : decode cX9_power 3 = .ok (.istore 5, 2) := by decide +kernel
theorem dX9_power_5 : decode cX9_power 5 = .ok (.iload 5, 2) := by decide +kernel
theorem dX9_power_7 : decode cX9_power 7 = .ok (.iload_n 2, 1) := by decide +kernel
theorem dX9_power_8 : decode cX9_power 8 = .ok (.if_icmp .ge 13, 3) := by decide +kernel
theorem dX9_power_11 : decode cX9_power 11 = .ok (.lload_n 3, 1) := by decide +kernel
theorem dX9_power_12 : decode cX9_power 12 = .ok (.lload_n 0, 1) := by decide +kernel
theorem dX9_power_13 : decode cX9_power 13 = .ok (.lmul, 1) := by decide +kernel
theorem dX9_power_14 : decode cX9_power 14 = .ok (.lstore_n 3, 1) := by decide +kernel
theorem dX9_power_15 : decode cX9_power 15 = .ok (.iinc 5 1, 3) := by decide +kernel
theorem dX9_power_18 : decode cX9_power 18 = .ok (.goto (-13), 3) := by decide +kernel
theorem dX9_power_21 : decode cX9_power 21 = .ok (.lload_n 3, 1) := by decide +kernel
theorem dX9_power_22 : decode cX9_power 22 = .ok (.lreturn, 1) := by decide +kernel
set_option maxRecDepth 20000 in
theorem ggX9_moths_X9_in : GoodIn wsX9_moths wsX9_in := goodIn_r _ [7] rfl (by decide +kernel)
set_option maxRecDepth 20000 in
theorem gX9_moths_X9_in : GoodIn wsX9_moths (va_wsS RX9 71 yX9_in wsX9_in) := goodIn_app (goodIn_r _ [4, 5, 6] rfl (by decide +kernel)) ggX9_moths_X9_in
set_option maxRecDepth 20000 in
theorem ggX9_moths_X9_power : GoodIn wsX9_moths wsX9_power := goodIn_r _ [10] rfl (by decide +kernel)
set_option maxRecDepth 20000 in
theorem gX9_moths_X9_power : GoodIn wsX9_moths (va_wsS RX9 262 yX9_power wsX9_power) := goodIn_app (goodIn_r _ [8, 9, 6] rfl (by decide +kernel)) ggX9_moths_X9_power
set_option maxRecDepth 20000 in
theorem ggX9_moths_X9_lowest : GoodIn wsX9_moths wsX9_lowest := goodIn_r _ [13] rfl (by decide +kernel)
set_option maxRecDepth 20000 in
theorem gX9_moths_X9_lowest : GoodIn wsX9_moths (va_wsS RX9 266 yX9_lowest wsX9_lowest) := goodIn_app (goodIn_r _ [11, 12, 6] rfl (by decide +kernel)) ggX9_moths_X9_lowest
theorem dX9_moths_0 : decode cX9_moths 0 = .ok (.iload_n 1, 1) := by decide +kernel
theorem dX9_moths_1 : decode cX9_moths 1 = .ok (.i2l, 1) := by decide +kernel
theorem dX9_moths_2 : decode cX9_moths 2 = .ok (.lconst 0, 1) := by decide +kernel
theorem dX9_moths_3 : decode cX9_moths 3 = .ok (.ldc2_w 256, 3) := by decide +kernel
theorem dX9_moths_6 : decode cX9_moths 6 = .ok (.invokestatic 71, 3) := by decide +kernel
theorem dX9_moths_9 : decode cX9_moths 9 = .ok (.ifCond .eq 63, 3) := by decide +kernel
theorem dX9_moths_12 : decode cX9_moths 12 = .ok (.iload_n 2, 1) := by decide +kernel
theorem dX9_moths_13 : decode cX9_moths 13 = .ok (.i2l, 1) := by decide +kernel
theorem dX9_moths_14 : decode cX9_moths 14 = .ok (.lconst 0, 1) := by decide +kernel
theorem dX9_moths_15 : decode cX9_moths 15 = .ok (.ldc2_w 256, 3) := by decide +kernel
theorem dX9_moths_18 : decode cX9_moths 18 = .ok (.invokestatic 71, 3) := by decide +kernel
theorem dX9_moths_21 : decode cX9_moths 21 = .ok (.ifCond .eq 51, 3) := by decide +kernel
theorem dX9_moths_24 : decode cX9_moths 24 = .ok (.iload_n 1, 1) := by decide +kernel
theorem dX9_moths_25 : decode cX9_moths 25 = .ok (.iload_n 2, 1) := by decide +kernel
theorem dX9_moths_26 : decode cX9_moths 26 = .ok (.imul, 1) := by decide +kernel
theorem dX9_moths_27 : decode cX9_moths 27 = .ok (.i2l, 1) := by decide +kernel
theorem dX9_moths_28 : decode cX9_moths 28 = .ok (.lconst 0, 1) := by decide +kernel
theorem dX9_moths_29 : decode cX9_moths 29 = .ok (.ldc2_w 256, 3) := by decide +kernel
theorem dX9_moths_32 : decode cX9_moths 32 = .ok (.invokestatic 71, 3) := by decide +kernel
theorem dX9_moths_35 : decode cX9_moths 35 = .ok (.ifCond .eq 37, 3) := by decide +kernel
theorem dX9_moths_38 : decode cX9_moths 38 = .ok (.iload_n 3, 1) := by decide +kernel
theorem dX9_moths_39 : decode cX9_moths 39 = .ok (.i2l, 1) := by decide +kernel
theorem dX9_moths_40 : decode cX9_moths 40 = .ok (.lconst 0, 1) := by decide +kernel
theorem dX9_moths_41 : decode cX9_moths 41 = .ok (.ldc2_w 258, 3) := by decide +kernel
theorem dX9_moths_44 : decode cX9_moths 44 = .ok (.invokestatic 71, 3) := by decide +kernel
theorem dX9_moths_47 : decode cX9_moths 47 = .ok (.ifCond .eq 25, 3) := by decide +kernel
theorem dX9_moths_50 : decode cX9_moths 50 = .ok (.iload 4, 2) := by decide +kernel
theorem dX9_moths_52 : decode cX9_moths 52 = .ok (.i2l, 1) := by decide +kernel
theorem dX9_moths_53 : decode cX9_moths 53 = .ok (.lconst 0, 1) := by decide +kernel
theorem dX9_moths_54 : decode cX9_moths 54 = .ok (.lconst 1, 1) := by decide +kernel
theorem dX9_moths_55 : decode cX9_moths 55 = .ok (.invokestatic 71, 3) := by decide +kernel
theorem dX9_moths_58 : decode cX9_moths 58 = .ok (.ifCond .eq 14, 3) := by decide +kernel
theorem dX9_moths_61 : decode cX9_moths 61 = .ok (.iload 5, 2) := by decide +kernel
theorem dX9_moths_63 : decode cX9_moths 63 = .ok (.i2l, 1) := by decide +kernel
theorem dX9_moths_64 : decode cX9_moths 64 = .ok (.lconst 0, 1) := by decide +kernel
theorem dX9_moths_65 : decode cX9_moths 65 = .ok (.lconst 1, 1) := by decide +kernel
theorem dX9_moths_66 : decode cX9_moths 66 = .ok (.invokestatic 71, 3) := by decide +kernel
theorem dX9_moths_69 : decode cX9_moths 69 = .ok (.ifCond .ne 7, 3) := by decide +kernel
theorem dX9_moths_72 : decode cX9_moths 72 = .ok (.ldc2_w 260, 3) := by decide +kernel
theorem dX9_moths_75 : decode cX9_moths 75 = .ok (.lreturn, 1) := by decide +kernel
theorem dX9_moths_76 : decode cX9_moths 76 = .ok (.ldc2_w 258, 3) := by decide +kernel
theorem dX9_moths_79 : decode cX9_moths 79 = .ok (.iload_n 2, 1) := by decide +kernel
theorem dX9_moths_80 : decode cX9_moths 80 = .ok (.invokestatic 262, 3) := by decide +kernel
theorem dX9_moths_83 : decode cX9_moths 83 = .ok (.lstore 6, 2) := by decide +kernel
theorem dX9_moths_85 : decode cX9_moths 85 = .ok (.ldc2_w 258, 3) := by decide +kernel
theorem dX9_moths_88 : decode cX9_moths 88 = .ok (.iload_n 3, 1) := by decide +kernel
theorem dX9_moths_89 : decode cX9_moths 89 = .ok (.i2l, 1) := by decide +kernel
theorem dX9_moths_90 : decode cX9_moths 90 = .ok (.lsub, 1) := by decide +kernel
theorem dX9_moths_91 : decode cX9_moths 91 = .ok (.iload_n 2, 1) := by decide +kernel
theorem dX9_moths_92 : decode cX9_moths 92 = .ok (.invokestatic 262, 3) := by decide +kernel
theorem dX9_moths_95 : decode cX9_moths 95 = .ok (.lstore 8, 2) := by decide +kernel
theorem dX9_moths_97 : decode cX9_moths 97 = .ok (.iload 4, 2) := by decide +kernel
theorem dX9_moths_99 : decode cX9_moths 99 = .ok (.ifCond .ne 26, 3) := by decide +kernel
theorem dX9_moths_102 : decode cX9_moths 102 = .ok (.lload 6, 2) := by decide +kernel
theorem dX9_moths_104 : decode cX9_moths 104 = .ok (.lload 8, 2) := by decide +kernel
theorem dX9_moths_106 : decode cX9_moths 106 = .ok (.lsub, 1) := by decide +kernel
theorem dX9_moths_107 : decode cX9_moths 107 = .ok (.iload_n 1, 1) := by decide +kernel
theorem dX9_moths_108 : decode cX9_moths 108 = .ok (.invokestatic 262, 3) := by decide +kernel
theorem dX9_moths_111 : decode cX9_moths 111 = .ok (.lload 6, 2) := by decide +kernel
theorem dX9_moths_113 : decode cX9_moths 113 = .ok (.iload_n 1, 1) := by decide +kernel
theorem dX9_moths_114 : decode cX9_moths 114 = .ok (.invokestatic 262, 3) := by decide +kernel
theorem dX9_moths_117 : decode cX9_moths 117 = .ok (.iload 5, 2) := by decide +kernel
theorem dX9_moths_119 : decode cX9_moths 119 = .ok (.invokestatic 266, 3) := by decide +kernel
theorem dX9_moths_122 : decode cX9_moths 122 = .ok (.goto 15, 3) := by decide +kernel
theorem dX9_moths_125 : decode cX9_moths 125 = .ok (.iload_n 1, 1) := by decide +kernel
theorem dX9_moths_126 : decode cX9_moths 126 = .ok (.i2l, 1) := by decide +kernel
theorem dX9_moths_127 : decode cX9_moths 127 = .ok (.lload 8, 2) := by decide +kernel
theorem dX9_moths_129 : decode cX9_moths 129 = .ok (.lmul, 1) := by decide +kernel
theorem dX9_moths_130 : decode cX9_moths 130 = .ok (.lload 6, 2) := by decide +kernel
theorem dX9_moths_132 : decode cX9_moths 132 = .ok (.iload 5, 2) := by decide +kernel
theorem dX9_moths_134 : decode cX9_moths 134 = .ok (.invokestatic 266, 3) := by decide +kernel
theorem dX9_moths_137 : decode cX9_moths 137 = .ok (.lreturn, 1) := by decide +kernel
theorem dX9_actBy_0 : decode cX9_actBy 0 = .ok (.iload_n 0, 1) := by decide +kernel
theorem dX9_actBy_1 : decode cX9_actBy 1 = .ok (.tableswitch 53 0 6 #[43, 43, 45, 47, 47, 49, 51], 43) := by decide +kernel
theorem dX9_actBy_44 : decode cX9_actBy 44 = .ok (.iconst 0, 1) := by decide +kernel
theorem dX9_actBy_45 : decode cX9_actBy 45 = .ok (.ireturn, 1) := by decide +kernel
theorem dX9_actBy_46 : decode cX9_actBy 46 = .ok (.iconst 1, 1) := by decide +kernel
theorem dX9_actBy_47 : decode cX9_actBy 47 = .ok (.ireturn, 1) := by decide +kernel
theorem dX9_actBy_48 : decode cX9_actBy 48 = .ok (.iconst 2, 1) := by decide +kernel
theorem dX9_actBy_49 : decode cX9_actBy 49 = .ok (.ireturn, 1) := by decide +kernel
theorem dX9_actBy_50 : decode cX9_actBy 50 = .ok (.iconst 3, 1) := by decide +kernel
theorem dX9_actBy_51 : decode cX9_actBy 51 = .ok (.ireturn, 1) := by decide +kernel
theorem dX9_actBy_52 : decode cX9_actBy 52 = .ok (.iconst 4, 1) := by decide +kernel
theorem dX9_actBy_53 : decode cX9_actBy 53 = .ok (.ireturn, 1) := by decide +kernel
theorem dX9_actBy_54 : decode cX9_actBy 54 = .ok (.bipush 6, 2) := by decide +kernel
theorem dX9_actBy_56 : decode cX9_actBy 56 = .ok (.ireturn, 1) := by decide +kernel
theorem dX9_muchBy_0 : decode cX9_muchBy 0 = .ok (.iload_n 0, 1) := by decide +kernel
theorem dX9_muchBy_1 : decode cX9_muchBy 1 = .ok (.ifCond .ne 12, 3) := by decide +kernel
theorem dX9_muchBy_4 : decode cX9_muchBy 4 = .ok (.iconst 1, 1) := by decide +kernel
theorem dX9_muchBy_5 : decode cX9_muchBy 5 = .ok (.iload_n 1, 1) := by decide +kernel
theorem dX9_muchBy_6 : decode cX9_muchBy 6 = .ok (.bipush 9, 2) := by decide +kernel
theorem dX9_muchBy_8 : decode cX9_muchBy 8 = .ok (.irem, 1) := by decide +kernel
theorem dX9_muchBy_9 : decode cX9_muchBy 9 = .ok (.iadd, 1) := by decide +kernel
theorem dX9_muchBy_10 : decode cX9_muchBy 10 = .ok (.goto 19, 3) := by decide +kernel
theorem dX9_muchBy_13 : decode cX9_muchBy 13 = .ok (.iload_n 0, 1) := by decide +kernel
theorem dX9_muchBy_14 : decode cX9_muchBy 14 = .ok (.iconst 2, 1) := by decide +kernel
theorem dX9_muchBy_15 : decode cX9_muchBy 15 = .ok (.if_icmp .ne 10, 3) := by decide +kernel
theorem dX9_muchBy_18 : decode cX9_muchBy 18 = .ok (.iload_n 1, 1) := by decide +kernel
theorem dX9_muchBy_19 : decode cX9_muchBy 19 = .ok (.bipush 8, 2) := by decide +kernel
theorem dX9_muchBy_21 : decode cX9_muchBy 21 = .ok (.irem, 1) := by decide +kernel
theorem dX9_muchBy_22 : decode cX9_muchBy 22 = .ok (.goto 7, 3) := by decide +kernel
theorem dX9_muchBy_25 : decode cX9_muchBy 25 = .ok (.iload_n 1, 1) := by decide +kernel
theorem dX9_muchBy_26 : decode cX9_muchBy 26 = .ok (.bipush 10, 2) := by decide +kernel
theorem dX9_muchBy_28 : decode cX9_muchBy 28 = .ok (.irem, 1) := by decide +kernel
theorem dX9_muchBy_29 : decode cX9_muchBy 29 = .ok (.ireturn, 1) := by decide +kernel
set_option maxRecDepth 20000 in
theorem ggX9_book_X9_in : GoodIn wsX9_book wsX9_in := goodIn_r _ [12] rfl (by decide +kernel)
set_option maxRecDepth 20000 in
theorem gX9_book_X9_in : GoodIn wsX9_book (va_wsS RX9 71 yX9_in wsX9_in) := goodIn_app (goodIn_r _ [9, 10, 11] rfl (by decide +kernel)) ggX9_book_X9_in
set_option maxRecDepth 20000 in
theorem ggX9_book_X9_keepNow : GoodIn wsX9_book wsX9_keepNow := goodIn_r _ [16, 17, 18, 19, 20, 7, 8, 21, 90, 91, 92, 93, 94, 95, 96, 97, 98, 99, 100, 101, 102, 103, 104, 105, 106, 107, 108, 109, 110, 111, 112, 113, 114, 115, 116, 117, 118, 119] rfl (by decide +kernel)
set_option maxRecDepth 20000 in
theorem gX9_book_X9_keepNow : GoodIn wsX9_book (wsV RX9 189 RX9 yX9_keepNow wsX9_keepNow) := goodIn_app (goodIn_r _ [13, 14, 15, 11] rfl (by decide +kernel)) ggX9_book_X9_keepNow
set_option maxRecDepth 20000 in
theorem ggX9_book_X9_actBy : GoodIn wsX9_book wsX9_actBy := goodIn_r _ [24] rfl (by decide +kernel)
set_option maxRecDepth 20000 in
theorem gX9_book_X9_actBy : GoodIn wsX9_book (va_wsS RX9 276 yX9_actBy wsX9_actBy) := goodIn_app (goodIn_r _ [22, 23, 11] rfl (by decide +kernel)) ggX9_book_X9_actBy
set_option maxRecDepth 20000 in
theorem ggX9_book_X9_muchBy : GoodIn wsX9_book wsX9_muchBy := goodIn_r _ [27] rfl (by decide +kernel)
set_option maxRecDepth 20000 in
theorem gX9_book_X9_muchBy : GoodIn wsX9_book (va_wsS RX9 279 yX9_muchBy wsX9_muchBy) := goodIn_app (goodIn_r _ [25, 26, 11] rfl (by decide +kernel)) ggX9_book_X9_muchBy
set_option maxRecDepth 20000 in
theorem ggX9_book_X9_whyNot : GoodIn wsX9_book wsX9_whyNot := goodIn_r _ [31, 21, 7, 8, 18, 32, 33, 11, 34, 90, 91, 92, 93, 94, 95, 96, 97, 98, 99, 100, 101, 102, 103, 104, 105, 106, 107, 108, 109, 110, 111, 112, 113, 114, 115, 116, 117, 118, 119] rfl (by decide +kernel)
set_option maxRecDepth 20000 in
theorem gX9_book_X9_whyNot : GoodIn wsX9_book (wsV RX9 182 RX9 yX9_whyNot wsX9_whyNot) := goodIn_app (goodIn_r _ [28, 29, 30, 11] rfl (by decide +kernel)) ggX9_book_X9_whyNot
set_option maxRecDepth 20000 in
theorem ggX9_book_X9_happen : GoodIn wsX9_book wsX9_happen := goodIn_r _ [38, 19, 39, 40, 41, 11, 42, 18, 7, 43, 44, 45, 46, 47, 8, 48, 49, 50, 51, 52, 53, 54, 55, 56, 57, 58, 20, 59, 60, 61, 62, 63, 64, 65, 66, 21, 32, 33, 34, 67, 68, 69, 70, 71, 72, 73, 74, 90, 91, 92, 93, 94, 95, 96, 97, 98, 99, 100, 101, 102, 103, 104, 105, 106, 107, 108, 109, 110, 111, 112, 113, 114, 115, 116, 117, 118, 119] rfl (by decide +kernel)
set_option maxRecDepth 20000 in
theorem gX9_book_X9_happen : GoodIn wsX9_book (wsV RX9 166 RX9 yX9_happen wsX9_happen) := goodIn_app (goodIn_r _ [35, 36, 37, 11] rfl (by decide +kernel)) ggX9_book_X9_happen
set_option maxRecDepth 20000 in
theorem ggX9_book_X9_ones : GoodIn wsX9_book wsX9_ones := goodIn_r _ [77] rfl (by decide +kernel)
set_option maxRecDepth 20000 in
theorem gX9_book_X9_ones : GoodIn wsX9_book (va_wsS RX9 83 yX9_ones wsX9_ones) := goodIn_app (goodIn_r _ [75, 76, 11] rfl (by decide +kernel)) ggX9_book_X9_ones
set_option maxRecDepth 20000 in
theorem ggX9_book_X9_borders : GoodIn wsX9_book wsX9_borders := goodIn_r _ [81, 20, 7, 32, 33, 11, 34, 82, 83, 84, 85, 19, 75, 76, 77, 90, 91, 92, 93, 94, 95, 96, 97, 98, 99, 100, 101, 102, 103, 104, 105, 106, 107, 108, 109, 110, 111, 112, 113, 114, 115, 116, 117, 118, 119] rfl (by decide +kernel)
set_option maxRecDepth 20000 in
theorem gX9_book_X9_borders : GoodIn wsX9_book (wsV RX9 282 RX9 yX9_borders wsX9_borders) := goodIn_app (goodIn_r _ [78, 79, 80, 11] rfl (by decide +kernel)) ggX9_book_X9_borders
set_option maxRecDepth 20000 in
theorem ggX9_book_X9_back : GoodIn wsX9_book wsX9_back := goodIn_r _ [89, 18, 17, 19, 20, 7, 8, 21, 90, 91, 92, 93, 94, 95, 96, 97, 98, 99, 100, 101, 102, 103, 104, 105, 106, 107, 108, 109, 110, 111, 112, 113, 114, 115, 116, 117, 118, 119] rfl (by decide +kernel)
set_option maxRecDepth 20000 in
theorem gX9_book_X9_back : GoodIn wsX9_book (wsV RX9 204 RX9 yX9_back wsX9_back) := goodIn_app (goodIn_r _ [86, 87, 88, 11] rfl (by decide +kernel)) ggX9_book_X9_back
theorem dX9_book_0 : decode cX9_book 0 = .ok (.iload_n 1, 1) := by decide +kernel
theorem dX9_book_1 : decode cX9_book 1 = .ok (.i2l, 1) := by decide +kernel
theorem dX9_book_2 : decode cX9_book 2 = .ok (.lconst 0, 1) := by decide +kernel
theorem dX9_book_3 : decode cX9_book 3 = .ok (.ldc2_w 270, 3) := by decide +kernel
theorem dX9_book_6 : decode cX9_book 6 = .ok (.invokestatic 71, 3) := by decide +kernel
theorem dX9_book_9 : decode cX9_book 9 = .ok (.ifCond .eq 27, 3) := by decide +kernel
theorem dX9_book_12 : decode cX9_book 12 = .ok (.iload_n 2, 1) := by decide +kernel
theorem dX9_book_13 : decode cX9_book 13 = .ok (.i2l, 1) := by decide +kernel
theorem dX9_book_14 : decode cX9_book 14 = .ok (.lconst 1, 1) := by decide +kernel
theorem dX9_book_15 : decode cX9_book 15 = .ok (.ldc2_w 79, 3) := by decide +kernel
theorem dX9_book_18 : decode cX9_book 18 = .ok (.invokestatic 71, 3) := by decide +kernel
theorem dX9_book_21 : decode cX9_book 21 = .ok (.ifCond .eq 15, 3) := by decide +kernel
theorem dX9_book_24 : decode cX9_book 24 = .ok (.iload_n 3, 1) := by decide +kernel
theorem dX9_book_25 : decode cX9_book 25 = .ok (.i2l, 1) := by decide +kernel
theorem dX9_book_26 : decode cX9_book 26 = .ok (.lconst 0, 1) := by decide +kernel
theorem dX9_book_27 : decode cX9_book 27 = .ok (.ldc2_w 199, 3) := by decide +kernel
theorem dX9_book_30 : decode cX9_book 30 = .ok (.invokestatic 71, 3) := by decide +kernel
theorem dX9_book_33 : decode cX9_book 33 = .ok (.ifCond .ne 6, 3) := by decide +kernel
theorem dX9_book_36 : decode cX9_book 36 = .ok (.bipush (-2), 2) := by decide +kernel
theorem dX9_book_38 : decode cX9_book 38 = .ok (.ireturn, 1) := by decide +kernel
theorem dX9_book_39 : decode cX9_book 39 = .ok (.aload_n 0, 1) := by decide +kernel
theorem dX9_book_40 : decode cX9_book 40 = .ok (.invokevirtual 189, 3) := by decide +kernel
theorem dX9_book_43 : decode cX9_book 43 = .ok (.iload_n 1, 1) := by decide +kernel
theorem dX9_book_44 : decode cX9_book 44 = .ok (.istore 4, 2) := by decide +kernel
theorem dX9_book_46 : decode cX9_book 46 = .ok (.iconst 0, 1) := by decide +kernel
theorem dX9_book_47 : decode cX9_book 47 = .ok (.istore 5, 2) := by decide +kernel
theorem dX9_book_49 : decode cX9_book 49 = .ok (.iload 5, 2) := by decide +kernel
theorem dX9_book_51 : decode cX9_book 51 = .ok (.iload_n 2, 1) := by decide +kernel
theorem dX9_book_52 : decode cX9_book 52 = .ok (.if_icmp .ge 112, 3) := by decide +kernel
theorem dX9_book_55 : decode cX9_book 55 = .ok (.ldc2_w 272, 3) := by decide +kernel
theorem dX9_book_58 : decode cX9_book 58 = .ok (.iload 4, 2) := by decide +kernel
theorem dX9_book_60 : decode cX9_book 60 = .ok (.i2l, 1) := by decide +kernel
theorem dX9_book_61 : decode cX9_book 61 = .ok (.lmul, 1) := by decide +kernel
theorem dX9_book_62 : decode cX9_book 62 = .ok (.ldc2_w 109, 3) := by decide +kernel
theorem dX9_book_65 : decode cX9_book 65 = .ok (.ladd, 1) := by decide +kernel
theorem dX9_book_66 : decode cX9_book 66 = .ok (.ldc2_w 274, 3) := by decide +kernel
theorem dX9_book_69 : decode cX9_book 69 = .ok (.lrem, 1) := by decide +kernel
theorem dX9_book_70 : decode cX9_book 70 = .ok (.l2i, 1) := by decide +kernel
theorem dX9_book_71 : decode cX9_book 71 = .ok (.istore 4, 2) := by decide +kernel
theorem dX9_book_73 : decode cX9_book 73 = .ok (.iload 4, 2) := by decide +kernel
theorem dX9_book_75 : decode cX9_book 75 = .ok (.bipush 10, 2) := by decide +kernel
theorem dX9_book_77 : decode cX9_book 77 = .ok (.idiv, 1) := by decide +kernel
theorem dX9_book_78 : decode cX9_book 78 = .ok (.bipush 8, 2) := by decide +kernel
theorem dX9_book_80 : decode cX9_book 80 = .ok (.irem, 1) := by decide +kernel
theorem dX9_book_81 : decode cX9_book 81 = .ok (.invokestatic 276, 3) := by decide +kernel
theorem dX9_book_84 : decode cX9_book 84 = .ok (.istore 6, 2) := by decide +kernel
theorem dX9_book_86 : decode cX9_book 86 = .ok (.iload 4, 2) := by decide +kernel
theorem dX9_book_88 : decode cX9_book 88 = .ok (.bipush 80, 2) := by decide +kernel
theorem dX9_book_90 : decode cX9_book 90 = .ok (.idiv, 1) := by decide +kernel
theorem dX9_book_91 : decode cX9_book 91 = .ok (.istore 7, 2) := by decide +kernel
theorem dX9_book_93 : decode cX9_book 93 = .ok (.iload 6, 2) := by decide +kernel
theorem dX9_book_95 : decode cX9_book 95 = .ok (.iconst 3, 1) := by decide +kernel
theorem dX9_book_96 : decode cX9_book 96 = .ok (.if_icmp .ne 11, 3) := by decide +kernel
theorem dX9_book_99 : decode cX9_book 99 = .ok (.iload 7, 2) := by decide +kernel
theorem dX9_book_101 : decode cX9_book 101 = .ok (.bipush 8, 2) := by decide +kernel
theorem dX9_book_103 : decode cX9_book 103 = .ok (.irem, 1) := by decide +kernel
theorem dX9_book_104 : decode cX9_book 104 = .ok (.ifCond .ne 7, 3) := by decide +kernel
theorem dX9_book_107 : decode cX9_book 107 = .ok (.iconst 1, 1) := by decide +kernel
theorem dX9_book_108 : decode cX9_book 108 = .ok (.goto 4, 3) := by decide +kernel
theorem dX9_book_111 : decode cX9_book 111 = .ok (.iconst 0, 1) := by decide +kernel
theorem dX9_book_112 : decode cX9_book 112 = .ok (.istore 8, 2) := by decide +kernel
theorem dX9_book_114 : decode cX9_book 114 = .ok (.iload 8, 2) := by decide +kernel
theorem dX9_book_116 : decode cX9_book 116 = .ok (.ifCond .eq 42, 3) := by decide +kernel
theorem dX9_book_119 : decode cX9_book 119 = .ok (.aload_n 0, 1) := by decide +kernel
theorem dX9_book_120 : decode cX9_book 120 = .ok (.iload 6, 2) := by decide +kernel
theorem dX9_book_122 : decode cX9_book 122 = .ok (.iload 4, 2) := by decide +kernel
theorem dX9_book_124 : decode cX9_book 124 = .ok (.bipush 10, 2) := by decide +kernel
theorem dX9_book_126 : decode cX9_book 126 = .ok (.irem, 1) := by decide +kernel
theorem dX9_book_127 : decode cX9_book 127 = .ok (.iload 6, 2) := by decide +kernel
theorem dX9_book_129 : decode cX9_book 129 = .ok (.iload 7, 2) := by decide +kernel
theorem dX9_book_131 : decode cX9_book 131 = .ok (.invokestatic 279, 3) := by decide +kernel
theorem dX9_book_134 : decode cX9_book 134 = .ok (.invokevirtual 182, 3) := by decide +kernel
theorem dX9_book_137 : decode cX9_book 137 = .ok (.ifCond .ne 21, 3) := by decide +kernel
theorem dX9_book_140 : decode cX9_book 140 = .ok (.aload_n 0, 1) := by decide +kernel
theorem dX9_book_141 : decode cX9_book 141 = .ok (.iload 6, 2) := by decide +kernel
theorem dX9_book_143 : decode cX9_book 143 = .ok (.iload 4, 2) := by decide +kernel
theorem dX9_book_145 : decode cX9_book 145 = .ok (.bipush 10, 2) := by decide +kernel
theorem dX9_book_147 : decode cX9_book 147 = .ok (.irem, 1) := by decide +kernel
theorem dX9_book_148 : decode cX9_book 148 = .ok (.iload 6, 2) := by decide +kernel
theorem dX9_book_150 : decode cX9_book 150 = .ok (.iload 7, 2) := by decide +kernel
theorem dX9_book_152 : decode cX9_book 152 = .ok (.invokestatic 279, 3) := by decide +kernel
theorem dX9_book_155 : decode cX9_book 155 = .ok (.invokevirtual 166, 3) := by decide +kernel
theorem dX9_book_158 : decode cX9_book 158 = .ok (.iinc 5 1, 3) := by decide +kernel
theorem dX9_book_161 : decode cX9_book 161 = .ok (.goto (-112), 3) := by decide +kernel
theorem dX9_book_164 : decode cX9_book 164 = .ok (.aload_n 0, 1) := by decide +kernel
theorem dX9_book_165 : decode cX9_book 165 = .ok (.iload_n 3, 1) := by decide +kernel
theorem dX9_book_166 : decode cX9_book 166 = .ok (.ifCond .ne 13, 3) := by decide +kernel
theorem dX9_book_169 : decode cX9_book 169 = .ok (.aload_n 0, 1) := by decide +kernel
theorem dX9_book_170 : decode cX9_book 170 = .ok (.getfield 62, 3) := by decide +kernel
theorem dX9_book_173 : decode cX9_book 173 = .ok (.invokestatic 83, 3) := by decide +kernel
theorem dX9_book_176 : decode cX9_book 176 = .ok (.goto 19, 3) := by decide +kernel
theorem dX9_book_179 : decode cX9_book 179 = .ok (.iload_n 3, 1) := by decide +kernel
theorem dX9_book_180 : decode cX9_book 180 = .ok (.iconst 1, 1) := by decide +kernel
theorem dX9_book_181 : decode cX9_book 181 = .ok (.if_icmp .ne 10, 3) := by decide +kernel
theorem dX9_book_184 : decode cX9_book 184 = .ok (.aload_n 0, 1) := by decide +kernel
theorem dX9_book_185 : decode cX9_book 185 = .ok (.getfield 66, 3) := by decide +kernel
theorem dX9_book_188 : decode cX9_book 188 = .ok (.goto 7, 3) := by decide +kernel
theorem dX9_book_191 : decode cX9_book 191 = .ok (.aload_n 0, 1) := by decide +kernel
theorem dX9_book_192 : decode cX9_book 192 = .ok (.invokevirtual 282, 3) := by decide +kernel
theorem dX9_book_195 : decode cX9_book 195 = .ok (.invokevirtual 204, 3) := by decide +kernel
theorem dX9_book_198 : decode cX9_book 198 = .ok (.ireturn, 1) := by decide +kernel
theorem dX9_pass_0 : decode cX9_pass 0 = .ok (.aload_n 0, 1) := by decide +kernel
theorem dX9_pass_1 : decode cX9_pass 1 = .ok (.getfield 285, 3) := by decide +kernel
theorem dX9_pass_4 : decode cX9_pass 4 = .ok (.ifCond .eq 7, 3) := by decide +kernel
theorem dX9_pass_7 : decode cX9_pass 7 = .ok (.iload_n 1, 1) := by decide +kernel
theorem dX9_pass_8 : decode cX9_pass 8 = .ok (.goto 12, 3) := by decide +kernel
theorem dX9_pass_11 : decode cX9_pass 11 = .ok (.aload_n 0, 1) := by decide +kernel
theorem dX9_pass_12 : decode cX9_pass 12 = .ok (.getfield 56, 3) := by decide +kernel
theorem dX9_pass_15 : decode cX9_pass 15 = .ok (.aload_n 0, 1) := by decide +kernel
theorem dX9_pass_16 : decode cX9_pass 16 = .ok (.getfield 289, 3) := by decide +kernel
theorem dX9_pass_19 : decode cX9_pass 19 = .ok (.iaload, 1) := by decide +kernel
theorem dX9_pass_20 : decode cX9_pass 20 = .ok (.istore_n 2, 1) := by decide +kernel
theorem dX9_pass_21 : decode cX9_pass 21 = .ok (.aload_n 0, 1) := by decide +kernel
theorem dX9_pass_22 : decode cX9_pass 22 = .ok (.getfield 56, 3) := by decide +kernel
theorem dX9_pass_25 : decode cX9_pass 25 = .ok (.aload_n 0, 1) := by decide +kernel
theorem dX9_pass_26 : decode cX9_pass 26 = .ok (.getfield 289, 3) := by decide +kernel
theorem dX9_pass_29 : decode cX9_pass 29 = .ok (.iload_n 2, 1) := by decide +kernel
theorem dX9_pass_30 : decode cX9_pass 30 = .ok (.iastore, 1) := by decide +kernel
theorem dX9_pass_31 : decode cX9_pass 31 = .ok (.aload_n 0, 1) := by decide +kernel
theorem dX9_pass_32 : decode cX9_pass 32 = .ok (.dup, 1) := by decide +kernel
theorem dX9_pass_33 : decode cX9_pass 33 = .ok (.getfield 289, 3) := by decide +kernel
theorem dX9_pass_36 : decode cX9_pass 36 = .ok (.iconst 1, 1) := by decide +kernel
theorem dX9_pass_37 : decode cX9_pass 37 = .ok (.iadd, 1) := by decide +kernel
theorem dX9_pass_38 : decode cX9_pass 38 = .ok (.putfield 289, 3) := by decide +kernel
theorem dX9_pass_41 : decode cX9_pass 41 = .ok (.iload_n 2, 1) := by decide +kernel
theorem dX9_pass_42 : decode cX9_pass 42 = .ok (.ireturn, 1) := by decide +kernel
set_option maxRecDepth 20000 in
theorem ggX9_passRow_X9_pass : GoodIn wsX9_passRow wsX9_pass := goodIn_r _ [5, 6, 7, 8, 9, 10, 11, 12, 13, 14, 15, 16, 17, 18, 19, 20, 21, 22, 23, 24, 25, 26, 27, 28, 29, 30, 31, 32, 33, 34, 35, 36, 37, 38] rfl (by decide +kernel)
set_option maxRecDepth 20000 in
theorem gX9_passRow_X9_pass : GoodIn wsX9_passRow (wsV RX9 292 RX9 yX9_pass wsX9_pass) := goodIn_app (goodIn_r _ [1, 2, 3, 4] rfl (by decide +kernel)) ggX9_passRow_X9_pass
theorem dX9_passRow_0 : decode cX9_passRow 0 = .ok (.iconst 0, 1) := by decide +kernel
theorem dX9_passRow_1 : decode cX9_passRow 1 = .ok (.istore_n 3, 1) := by decide +kernel
theorem dX9_passRow_2 : decode cX9_passRow 2 = .ok (.iload_n 3, 1) := by decide +kernel
theorem dX9_passRow_3 : decode cX9_passRow 3 = .ok (.iload_n 2, 1) := by decide +kernel
theorem dX9_passRow_4 : decode cX9_passRow 4 = .ok (.if_icmp .ge 19, 3) := by decide +kernel
theorem dX9_passRow_7 : decode cX9_passRow 7 = .ok (.aload_n 1, 1) := by decide +kernel
theorem dX9_passRow_8 : decode cX9_passRow 8 = .ok (.iload_n 3, 1) := by decide +kernel
theorem dX9_passRow_9 : decode cX9_passRow 9 = .ok (.aload_n 0, 1) := by decide +kernel
theorem dX9_passRow_10 : decode cX9_passRow 10 = .ok (.aload_n 1, 1) := by decide +kernel
theorem dX9_passRow_11 : decode cX9_passRow 11 = .ok (.iload_n 3, 1) := by decide +kernel
theorem dX9_passRow_12 : decode cX9_passRow 12 = .ok (.iaload, 1) := by decide +kernel
theorem dX9_passRow_13 : decode cX9_passRow 13 = .ok (.invokevirtual 292, 3) := by decide +kernel
theorem dX9_passRow_16 : decode cX9_passRow 16 = .ok (.iastore, 1) := by decide +kernel
theorem dX9_passRow_17 : decode cX9_passRow 17 = .ok (.iinc 3 1, 3) := by decide +kernel
theorem dX9_passRow_20 : decode cX9_passRow 20 = .ok (.goto (-18), 3) := by decide +kernel
theorem dX9_passRow_23 : decode cX9_passRow 23 = .ok (.return_, 1) := by decide +kernel
set_option maxRecDepth 20000 in
theorem ggX9_passAll_X9_pass : GoodIn wsX9_passAll wsX9_pass := goodIn_r _ [14, 15, 16, 17, 22, 23, 24, 25, 26, 27, 28, 29, 30, 31, 32, 33, 34, 35, 36, 37, 38, 39, 40, 41, 42, 43, 44, 45, 46, 47, 48, 49, 50, 51] rfl (by decide +kernel)
set_option maxRecDepth 20000 in
theorem gX9_passAll_X9_pass : GoodIn wsX9_passAll (wsV RX9 292 RX9 yX9_pass wsX9_pass) := goodIn_app (goodIn_r _ [10, 11, 12, 13] rfl (by decide +kernel)) ggX9_passAll_X9_pass
set_option maxRecDepth 20000 in
theorem ggX9_passAll_X9_passRow : GoodIn wsX9_passAll wsX9_passRow := goodIn_r _ [21, 10, 11, 12, 13, 14, 15, 16, 17, 22, 23, 24, 25, 26, 27, 28, 29, 30, 31, 32, 33, 34, 35, 36, 37, 38, 39, 40, 41, 42, 43, 44, 45, 46, 47, 48, 49, 50, 51] rfl (by decide +kernel)
set_option maxRecDepth 20000 in
theorem gX9_passAll_X9_passRow : GoodIn wsX9_passAll (wsV RX9 295 RX9 yX9_passRow wsX9_passRow) := goodIn_app (goodIn_r _ [18, 19, 20, 13] rfl (by decide +kernel)) ggX9_passAll_X9_passRow
theorem dX9_passAll_0 : decode cX9_passAll 0 = .ok (.aload_n 0, 1) := by decide +kernel
theorem dX9_passAll_1 : decode cX9_passAll 1 = .ok (.aload_n 0, 1) := by decide +kernel
theorem dX9_passAll_2 : decode cX9_passAll 2 = .ok (.aload_n 0, 1) := by decide +kernel
theorem dX9_passAll_3 : decode cX9_passAll 3 = .ok (.getfield 62, 3) := by decide +kernel
theorem dX9_passAll_6 : decode cX9_passAll 6 = .ok (.invokevirtual 292, 3) := by decide +kernel
theorem dX9_passAll_9 : decode cX9_passAll 9 = .ok (.putfield 62, 3) := by decide +kernel
theorem dX9_passAll_12 : decode cX9_passAll 12 = .ok (.aload_n 0, 1) := by decide +kernel
theorem dX9_passAll_13 : decode cX9_passAll 13 = .ok (.aload_n 0, 1) := by decide +kernel
theorem dX9_passAll_14 : decode cX9_passAll 14 = .ok (.aload_n 0, 1) := by decide +kernel
theorem dX9_passAll_15 : decode cX9_passAll 15 = .ok (.getfield 66, 3) := by decide +kernel
theorem dX9_passAll_18 : decode cX9_passAll 18 = .ok (.invokevirtual 292, 3) := by decide +kernel
theorem dX9_passAll_21 : decode cX9_passAll 21 = .ok (.putfield 66, 3) := by decide +kernel
theorem dX9_passAll_24 : decode cX9_passAll 24 = .ok (.aload_n 0, 1) := by decide +kernel
theorem dX9_passAll_25 : decode cX9_passAll 25 = .ok (.aload_n 0, 1) := by decide +kernel
theorem dX9_passAll_26 : decode cX9_passAll 26 = .ok (.aload_n 0, 1) := by decide +kernel
theorem dX9_passAll_27 : decode cX9_passAll 27 = .ok (.getfield 135, 3) := by decide +kernel
theorem dX9_passAll_30 : decode cX9_passAll 30 = .ok (.invokevirtual 292, 3) := by decide +kernel
theorem dX9_passAll_33 : decode cX9_passAll 33 = .ok (.putfield 135, 3) := by decide +kernel
theorem dX9_passAll_36 : decode cX9_passAll 36 = .ok (.aload_n 0, 1) := by decide +kernel
theorem dX9_passAll_37 : decode cX9_passAll 37 = .ok (.aload_n 0, 1) := by decide +kernel
theorem dX9_passAll_38 : decode cX9_passAll 38 = .ok (.aload_n 0, 1) := by decide +kernel
theorem dX9_passAll_39 : decode cX9_passAll 39 = .ok (.getfield 241, 3) := by decide +kernel
theorem dX9_passAll_42 : decode cX9_passAll 42 = .ok (.invokevirtual 292, 3) := by decide +kernel
theorem dX9_passAll_45 : decode cX9_passAll 45 = .ok (.putfield 241, 3) := by decide +kernel
theorem dX9_passAll_48 : decode cX9_passAll 48 = .ok (.aload_n 0, 1) := by decide +kernel
theorem dX9_passAll_49 : decode cX9_passAll 49 = .ok (.aload_n 0, 1) := by decide +kernel
theorem dX9_passAll_50 : decode cX9_passAll 50 = .ok (.getfield 7, 3) := by decide +kernel
theorem dX9_passAll_53 : decode cX9_passAll 53 = .ok (.bipush 10, 2) := by decide +kernel
theorem dX9_passAll_55 : decode cX9_passAll 55 = .ok (.invokevirtual 295, 3) := by decide +kernel
theorem dX9_passAll_58 : decode cX9_passAll 58 = .ok (.aload_n 0, 1) := by decide +kernel
theorem dX9_passAll_59 : decode cX9_passAll 59 = .ok (.aload_n 0, 1) := by decide +kernel
theorem dX9_passAll_60 : decode cX9_passAll 60 = .ok (.getfield 13, 3) := by decide +kernel
theorem dX9_passAll_63 : decode cX9_passAll 63 = .ok (.bipush 10, 2) := by decide +kernel
theorem dX9_passAll_65 : decode cX9_passAll 65 = .ok (.invokevirtual 295, 3) := by decide +kernel
theorem dX9_passAll_68 : decode cX9_passAll 68 = .ok (.aload_n 0, 1) := by decide +kernel
theorem dX9_passAll_69 : decode cX9_passAll 69 = .ok (.aload_n 0, 1) := by decide +kernel
theorem dX9_passAll_70 : decode cX9_passAll 70 = .ok (.getfield 16, 3) := by decide +kernel
theorem dX9_passAll_73 : decode cX9_passAll 73 = .ok (.bipush 10, 2) := by decide +kernel
theorem dX9_passAll_75 : decode cX9_passAll 75 = .ok (.invokevirtual 295, 3) := by decide +kernel
theorem dX9_passAll_78 : decode cX9_passAll 78 = .ok (.aload_n 0, 1) := by decide +kernel
theorem dX9_passAll_79 : decode cX9_passAll 79 = .ok (.aload_n 0, 1) := by decide +kernel
theorem dX9_passAll_80 : decode cX9_passAll 80 = .ok (.getfield 19, 3) := by decide +kernel
theorem dX9_passAll_83 : decode cX9_passAll 83 = .ok (.bipush 8, 2) := by decide +kernel
theorem dX9_passAll_85 : decode cX9_passAll 85 = .ok (.invokevirtual 295, 3) := by decide +kernel
theorem dX9_passAll_88 : decode cX9_passAll 88 = .ok (.aload_n 0, 1) := by decide +kernel
theorem dX9_passAll_89 : decode cX9_passAll 89 = .ok (.aload_n 0, 1) := by decide +kernel
theorem dX9_passAll_90 : decode cX9_passAll 90 = .ok (.getfield 22, 3) := by decide +kernel
theorem dX9_passAll_93 : decode cX9_passAll 93 = .ok (.bipush 8, 2) := by decide +kernel
theorem dX9_passAll_95 : decode cX9_passAll 95 = .ok (.invokevirtual 295, 3) := by decide +kernel
theorem dX9_passAll_98 : decode cX9_passAll 98 = .ok (.return_, 1) := by decide +kernel
set_option maxRecDepth 20000 in
theorem ggX9_image_X9_in : GoodIn wsX9_image wsX9_in := goodIn_r _ [7] rfl (by decide +kernel)
set_option maxRecDepth 20000 in
theorem gX9_image_X9_in : GoodIn wsX9_image (va_wsS RX9 71 yX9_in wsX9_in) := goodIn_app (goodIn_r _ [4, 5, 6] rfl (by decide +kernel)) ggX9_image_X9_in
set_option maxRecDepth 20000 in
theorem ggX9_image_X9_passAll : GoodIn wsX9_image wsX9_passAll := goodIn_r _ [11, 12, 13, 14, 15, 16, 17, 18, 19, 20, 21, 22, 23, 6, 24, 2, 25, 1, 26, 27, 28, 29, 30, 31, 32, 33, 34, 35, 36, 37, 38, 39, 40, 41, 42, 43, 44, 45, 46, 47, 48, 49, 50, 51, 52, 53, 54, 55, 56, 57, 58, 59] rfl (by decide +kernel)
set_option maxRecDepth 20000 in
theorem gX9_image_X9_passAll : GoodIn wsX9_image (wsV RX9 299 RX9 yX9_passAll wsX9_passAll) := goodIn_app (goodIn_r _ [8, 9, 10, 6] rfl (by decide +kernel)) ggX9_image_X9_passAll
theorem dX9_image_0 : decode cX9_image 0 = .ok (.iload_n 1, 1) := by decide +kernel
theorem dX9_image_1 : decode cX9_image 1 = .ok (.i2l, 1) := by decide +kernel
theorem dX9_image_2 : decode cX9_image 2 = .ok (.lconst 0, 1) := by decide +kernel
theorem dX9_image_3 : decode cX9_image 3 = .ok (.lconst 1, 1) := by decide +kernel
theorem dX9_image_4 : decode cX9_image 4 = .ok (.invokestatic 71, 3) := by decide +kernel
theorem dX9_image_7 : decode cX9_image 7 = .ok (.ifCond .ne 6, 3) := by decide +kernel
theorem dX9_image_10 : decode cX9_image 10 = .ok (.bipush (-2), 2) := by decide +kernel
theorem dX9_image_12 : decode cX9_image 12 = .ok (.ireturn, 1) := by decide +kernel
theorem dX9_image_13 : decode cX9_image 13 = .ok (.aload_n 0, 1) := by decide +kernel
theorem dX9_image_14 : decode cX9_image 14 = .ok (.bipush 60, 2) := by decide +kernel
theorem dX9_image_16 : decode cX9_image 16 = .ok (.iload_n 1, 1) := by decide +kernel
theorem dX9_image_17 : decode cX9_image 17 = .ok (.imul, 1) := by decide +kernel
theorem dX9_image_18 : decode cX9_image 18 = .ok (.putfield 289, 3) := by decide +kernel
theorem dX9_image_21 : decode cX9_image 21 = .ok (.aload_n 0, 1) := by decide +kernel
theorem dX9_image_22 : decode cX9_image 22 = .ok (.iconst 1, 1) := by decide +kernel
theorem dX9_image_23 : decode cX9_image 23 = .ok (.putfield 285, 3) := by decide +kernel
theorem dX9_image_26 : decode cX9_image 26 = .ok (.aload_n 0, 1) := by decide +kernel
theorem dX9_image_27 : decode cX9_image 27 = .ok (.invokevirtual 299, 3) := by decide +kernel
theorem dX9_image_30 : decode cX9_image 30 = .ok (.aload_n 0, 1) := by decide +kernel
theorem dX9_image_31 : decode cX9_image 31 = .ok (.getfield 59, 3) := by decide +kernel
theorem dX9_image_34 : decode cX9_image 34 = .ok (.iload_n 1, 1) := by decide +kernel
theorem dX9_image_35 : decode cX9_image 35 = .ok (.iconst 1, 1) := by decide +kernel
theorem dX9_image_36 : decode cX9_image 36 = .ok (.bastore, 1) := by decide +kernel
theorem dX9_image_37 : decode cX9_image 37 = .ok (.iconst 1, 1) := by decide +kernel
theorem dX9_image_38 : decode cX9_image 38 = .ok (.ireturn, 1) := by decide +kernel
set_option maxRecDepth 20000 in
theorem ggX9_restore_X9_in : GoodIn wsX9_restore wsX9_in := goodIn_r _ [7] rfl (by decide +kernel)
set_option maxRecDepth 20000 in
theorem gX9_restore_X9_in : GoodIn wsX9_restore (va_wsS RX9 71 yX9_in wsX9_in) := goodIn_app (goodIn_r _ [4, 5, 6] rfl (by decide +kernel)) ggX9_restore_X9_in
set_option maxRecDepth 20000 in
theorem ggX9_restore_X9_passAll : GoodIn wsX9_restore wsX9_passAll := goodIn_r _ [11, 12, 13, 14, 15, 16, 17, 18, 19, 20, 21, 22, 23, 6, 24, 3, 25, 2, 26, 27, 28, 29, 30, 31, 32, 33, 34, 35, 36, 37, 38, 39, 40, 41, 42, 43, 44, 45, 46, 47, 48, 49, 50, 51, 52, 53, 54, 55, 56, 57, 58, 59] rfl (by decide +kernel)
set_option maxRecDepth 20000 in
theorem gX9_restore_X9_passAll : GoodIn wsX9_restore (wsV RX9 299 RX9 yX9_passAll wsX9_passAll) := goodIn_app (goodIn_r _ [8, 9, 10, 6] rfl (by decide +kernel)) ggX9_restore_X9_passAll
theorem dX9_restore_0 : decode cX9_restore 0 = .ok (.iload_n 1, 1) := by decide +kernel
theorem dX9_restore_1 : decode cX9_restore 1 = .ok (.i2l, 1) := by decide +kernel
theorem dX9_restore_2 : decode cX9_restore 2 = .ok (.lconst 0, 1) := by decide +kernel
theorem dX9_restore_3 : decode cX9_restore 3 = .ok (.lconst 1, 1) := by decide +kernel
theorem dX9_restore_4 : decode cX9_restore 4 = .ok (.invokestatic 71, 3) := by decide +kernel
theorem dX9_restore_7 : decode cX9_restore 7 = .ok (.ifCond .ne 6, 3) := by decide +kernel
theorem dX9_restore_10 : decode cX9_restore 10 = .ok (.bipush (-2), 2) := by decide +kernel
theorem dX9_restore_12 : decode cX9_restore 12 = .ok (.ireturn, 1) := by decide +kernel
theorem dX9_restore_13 : decode cX9_restore 13 = .ok (.aload_n 0, 1) := by decide +kernel
theorem dX9_restore_14 : decode cX9_restore 14 = .ok (.getfield 59, 3) := by decide +kernel
theorem dX9_restore_17 : decode cX9_restore 17 = .ok (.iload_n 1, 1) := by decide +kernel
theorem dX9_restore_18 : decode cX9_restore 18 = .ok (.baload, 1) := by decide +kernel
theorem dX9_restore_19 : decode cX9_restore 19 = .ok (.ifCond .ne 6, 3) := by decide +kernel
theorem dX9_restore_22 : decode cX9_restore 22 = .ok (.bipush (-3), 2) := by decide +kernel
theorem dX9_restore_24 : decode cX9_restore 24 = .ok (.ireturn, 1) := by decide +kernel
theorem dX9_restore_25 : decode cX9_restore 25 = .ok (.aload_n 0, 1) := by decide +kernel
theorem dX9_restore_26 : decode cX9_restore 26 = .ok (.bipush 60, 2) := by decide +kernel
theorem dX9_restore_28 : decode cX9_restore 28 = .ok (.iload_n 1, 1) := by decide +kernel
theorem dX9_restore_29 : decode cX9_restore 29 = .ok (.imul, 1) := by decide +kernel
theorem dX9_restore_30 : decode cX9_restore 30 = .ok (.putfield 289, 3) := by decide +kernel
theorem dX9_restore_33 : decode cX9_restore 33 = .ok (.aload_n 0, 1) := by decide +kernel
theorem dX9_restore_34 : decode cX9_restore 34 = .ok (.iconst 0, 1) := by decide +kernel
theorem dX9_restore_35 : decode cX9_restore 35 = .ok (.putfield 285, 3) := by decide +kernel
theorem dX9_restore_38 : decode cX9_restore 38 = .ok (.aload_n 0, 1) := by decide +kernel
theorem dX9_restore_39 : decode cX9_restore 39 = .ok (.invokevirtual 299, 3) := by decide +kernel
theorem dX9_restore_42 : decode cX9_restore 42 = .ok (.iconst 1, 1) := by decide +kernel
theorem dX9_restore_43 : decode cX9_restore 43 = .ok (.ireturn, 1) := by decide +kernel
set_option maxRecDepth 20000 in
theorem ggX9_ofThere_X9_has : GoodIn wsX9_ofThere wsX9_has := goodIn_r _ [7] rfl (by decide +kernel)
set_option maxRecDepth 20000 in
theorem gX9_ofThere_X9_has : GoodIn wsX9_ofThere (va_wsS RX9 87 yX9_has wsX9_has) := goodIn_app (goodIn_r _ [4, 5, 6] rfl (by decide +kernel)) ggX9_ofThere_X9_has
theorem dX9_ofThere_0 : decode cX9_ofThere 0 = .ok (.iload_n 1, 1) := by decide +kernel
theorem dX9_ofThere_1 : decode cX9_ofThere 1 = .ok (.bipush 10, 2) := by decide +kernel
theorem dX9_ofThere_3 : decode cX9_ofThere 3 = .ok (.irem, 1) := by decide +kernel
theorem dX9_ofThere_4 : decode cX9_ofThere 4 = .ok (.istore_n 2, 1) := by decide +kernel
theorem dX9_ofThere_5 : decode cX9_ofThere 5 = .ok (.aload_n 0, 1) := by decide +kernel
theorem dX9_ofThere_6 : decode cX9_ofThere 6 = .ok (.getfield 62, 3) := by decide +kernel
theorem dX9_ofThere_9 : decode cX9_ofThere 9 = .ok (.iload_n 2, 1) := by decide +kernel
theorem dX9_ofThere_10 : decode cX9_ofThere 10 = .ok (.invokestatic 87, 3) := by decide +kernel
theorem dX9_ofThere_13 : decode cX9_ofThere 13 = .ok (.ifCond .ne 8, 3) := by decide +kernel
theorem dX9_ofThere_16 : decode cX9_ofThere 16 = .ok (.bipush (-2), 2) := by decide +kernel
theorem dX9_ofThere_18 : decode cX9_ofThere 18 = .ok (.goto 24, 3) := by decide +kernel
theorem dX9_ofThere_21 : decode cX9_ofThere 21 = .ok (.iload_n 1, 1) := by decide +kernel
theorem dX9_ofThere_22 : decode cX9_ofThere 22 = .ok (.bipush 30, 2) := by decide +kernel
theorem dX9_ofThere_24 : decode cX9_ofThere 24 = .ok (.if_icmp .ge 12, 3) := by decide +kernel
theorem dX9_ofThere_27 : decode cX9_ofThere 27 = .ok (.aload_n 0, 1) := by decide +kernel
theorem dX9_ofThere_28 : decode cX9_ofThere 28 = .ok (.getfield 7, 3) := by decide +kernel
theorem dX9_ofThere_31 : decode cX9_ofThere 31 = .ok (.iload_n 2, 1) := by decide +kernel
theorem dX9_ofThere_32 : decode cX9_ofThere 32 = .ok (.iaload, 1) := by decide +kernel
theorem dX9_ofThere_33 : decode cX9_ofThere 33 = .ok (.goto 9, 3) := by decide +kernel
theorem dX9_ofThere_36 : decode cX9_ofThere 36 = .ok (.aload_n 0, 1) := by decide +kernel
theorem dX9_ofThere_37 : decode cX9_ofThere 37 = .ok (.getfield 13, 3) := by decide +kernel
theorem dX9_ofThere_40 : decode cX9_ofThere 40 = .ok (.iload_n 2, 1) := by decide +kernel
theorem dX9_ofThere_41 : decode cX9_ofThere 41 = .ok (.iaload, 1) := by decide +kernel
theorem dX9_ofThere_42 : decode cX9_ofThere 42 = .ok (.ireturn, 1) := by decide +kernel
set_option maxRecDepth 20000 in
theorem ggX9_told_X9_in : GoodIn wsX9_told wsX9_in := goodIn_r _ [14] rfl (by decide +kernel)
set_option maxRecDepth 20000 in
theorem gX9_told_X9_in : GoodIn wsX9_told (va_wsS RX9 71 yX9_in wsX9_in) := goodIn_app (goodIn_r _ [11, 12, 13] rfl (by decide +kernel)) ggX9_told_X9_in
set_option maxRecDepth 20000 in
theorem ggX9_told_X9_ofThere : GoodIn wsX9_told wsX9_ofThere := goodIn_r _ [18, 7, 19, 20, 21, 22, 13, 23, 24, 25, 26, 27, 28, 29, 30, 31, 32, 33, 34, 35, 36, 37, 38, 39, 40, 41, 42, 43, 44, 45, 46, 47, 48, 49, 50, 51, 52, 53] rfl (by decide +kernel)
set_option maxRecDepth 20000 in
theorem gX9_told_X9_ofThere : GoodIn wsX9_told (wsV RX9 308 RX9 yX9_ofThere wsX9_ofThere) := goodIn_app (goodIn_r _ [15, 16, 17, 13] rfl (by decide +kernel)) ggX9_told_X9_ofThere
theorem dX9_told_0 : decode cX9_told 0 = .ok (.iload_n 1, 1) := by decide +kernel
theorem dX9_told_1 : decode cX9_told 1 = .ok (.i2l, 1) := by decide +kernel
theorem dX9_told_2 : decode cX9_told 2 = .ok (.ldc2_w 258, 3) := by decide +kernel
theorem dX9_told_5 : decode cX9_told 5 = .ok (.ldc2_w 302, 3) := by decide +kernel
theorem dX9_told_8 : decode cX9_told 8 = .ok (.invokestatic 71, 3) := by decide +kernel
theorem dX9_told_11 : decode cX9_told 11 = .ok (.ifCond .eq 13, 3) := by decide +kernel
theorem dX9_told_14 : decode cX9_told 14 = .ok (.aload_n 0, 1) := by decide +kernel
theorem dX9_told_15 : decode cX9_told 15 = .ok (.getfield 16, 3) := by decide +kernel
theorem dX9_told_18 : decode cX9_told 18 = .ok (.iload_n 1, 1) := by decide +kernel
theorem dX9_told_19 : decode cX9_told 19 = .ok (.bipush 10, 2) := by decide +kernel
theorem dX9_told_21 : decode cX9_told 21 = .ok (.isub, 1) := by decide +kernel
theorem dX9_told_22 : decode cX9_told 22 = .ok (.iaload, 1) := by decide +kernel
theorem dX9_told_23 : decode cX9_told 23 = .ok (.ireturn, 1) := by decide +kernel
theorem dX9_told_24 : decode cX9_told 24 = .ok (.iload_n 1, 1) := by decide +kernel
theorem dX9_told_25 : decode cX9_told 25 = .ok (.i2l, 1) := by decide +kernel
theorem dX9_told_26 : decode cX9_told 26 = .ok (.ldc2_w 304, 3) := by decide +kernel
theorem dX9_told_29 : decode cX9_told 29 = .ok (.ldc2_w 306, 3) := by decide +kernel
theorem dX9_told_32 : decode cX9_told 32 = .ok (.invokestatic 71, 3) := by decide +kernel
theorem dX9_told_35 : decode cX9_told 35 = .ok (.ifCond .eq 9, 3) := by decide +kernel
theorem dX9_told_38 : decode cX9_told 38 = .ok (.aload_n 0, 1) := by decide +kernel
theorem dX9_told_39 : decode cX9_told 39 = .ok (.iload_n 1, 1) := by decide +kernel
theorem dX9_told_40 : decode cX9_told 40 = .ok (.invokevirtual 308, 3) := by decide +kernel
theorem dX9_told_43 : decode cX9_told 43 = .ok (.ireturn, 1) := by decide +kernel
theorem dX9_told_44 : decode cX9_told 44 = .ok (.iload_n 1, 1) := by decide +kernel
theorem dX9_told_45 : decode cX9_told 45 = .ok (.tableswitch 60 0 4 #[35, 40, 45, 50, 55], 35) := by decide +kernel
theorem dX9_told_80 : decode cX9_told 80 = .ok (.aload_n 0, 1) := by decide +kernel
theorem dX9_told_81 : decode cX9_told 81 = .ok (.getfield 101, 3) := by decide +kernel
theorem dX9_told_84 : decode cX9_told 84 = .ok (.ireturn, 1) := by decide +kernel
theorem dX9_told_85 : decode cX9_told 85 = .ok (.aload_n 0, 1) := by decide +kernel
theorem dX9_told_86 : decode cX9_told 86 = .ok (.getfield 62, 3) := by decide +kernel
theorem dX9_told_89 : decode cX9_told 89 = .ok (.ireturn, 1) := by decide +kernel
theorem dX9_told_90 : decode cX9_told 90 = .ok (.aload_n 0, 1) := by decide +kernel
theorem dX9_told_91 : decode cX9_told 91 = .ok (.getfield 66, 3) := by decide +kernel
theorem dX9_told_94 : decode cX9_told 94 = .ok (.ireturn, 1) := by decide +kernel
theorem dX9_told_95 : decode cX9_told 95 = .ok (.aload_n 0, 1) := by decide +kernel
theorem dX9_told_96 : decode cX9_told 96 = .ok (.getfield 135, 3) := by decide +kernel
theorem dX9_told_99 : decode cX9_told 99 = .ok (.ireturn, 1) := by decide +kernel
theorem dX9_told_100 : decode cX9_told 100 = .ok (.aload_n 0, 1) := by decide +kernel
theorem dX9_told_101 : decode cX9_told 101 = .ok (.getfield 241, 3) := by decide +kernel
theorem dX9_told_104 : decode cX9_told 104 = .ok (.ireturn, 1) := by decide +kernel
theorem dX9_told_105 : decode cX9_told 105 = .ok (.bipush (-2), 2) := by decide +kernel
theorem dX9_told_107 : decode cX9_told 107 = .ok (.ireturn, 1) := by decide +kernel
theorem dJ6_bitCount_0f7a4_0 : decode cJ6_bitCount_0f7a4 0 = .ok (.iload_n 0, 1) := by decide +kernel
theorem dJ6_bitCount_0f7a4_1 : decode cJ6_bitCount_0f7a4 1 = .ok (.iload_n 0, 1) := by decide +kernel
theorem dJ6_bitCount_0f7a4_2 : decode cJ6_bitCount_0f7a4 2 = .ok (.iconst 1, 1) := by decide +kernel
theorem dJ6_bitCount_0f7a4_3 : decode cJ6_bitCount_0f7a4 3 = .ok (.iushr, 1) := by decide +kernel
theorem dJ6_bitCount_0f7a4_4 : decode cJ6_bitCount_0f7a4 4 = .ok (.ldc_w 265, 3) := by decide +kernel
theorem dJ6_bitCount_0f7a4_7 : decode cJ6_bitCount_0f7a4 7 = .ok (.iand, 1) := by decide +kernel
theorem dJ6_bitCount_0f7a4_8 : decode cJ6_bitCount_0f7a4 8 = .ok (.isub, 1) := by decide +kernel
theorem dJ6_bitCount_0f7a4_9 : decode cJ6_bitCount_0f7a4 9 = .ok (.istore_n 0, 1) := by decide +kernel
theorem dJ6_bitCount_0f7a4_10 : decode cJ6_bitCount_0f7a4 10 = .ok (.iload_n 0, 1) := by decide +kernel
theorem dJ6_bitCount_0f7a4_11 : decode cJ6_bitCount_0f7a4 11 = .ok (.ldc_w 266, 3) := by decide +kernel
theorem dJ6_bitCount_0f7a4_14 : decode cJ6_bitCount_0f7a4 14 = .ok (.iand, 1) := by decide +kernel
theorem dJ6_bitCount_0f7a4_15 : decode cJ6_bitCount_0f7a4 15 = .ok (.iload_n 0, 1) := by decide +kernel
theorem dJ6_bitCount_0f7a4_16 : decode cJ6_bitCount_0f7a4 16 = .ok (.iconst 2, 1) := by decide +kernel
theorem dJ6_bitCount_0f7a4_17 : decode cJ6_bitCount_0f7a4 17 = .ok (.iushr, 1) := by decide +kernel
theorem dJ6_bitCount_0f7a4_18 : decode cJ6_bitCount_0f7a4 18 = .ok (.ldc_w 266, 3) := by decide +kernel
theorem dJ6_bitCount_0f7a4_21 : decode cJ6_bitCount_0f7a4 21 = .ok (.iand, 1) := by decide +kernel
theorem dJ6_bitCount_0f7a4_22 : decode cJ6_bitCount_0f7a4 22 = .ok (.iadd, 1) := by decide +kernel
theorem dJ6_bitCount_0f7a4_23 : decode cJ6_bitCount_0f7a4 23 = .ok (.istore_n 0, 1) := by decide +kernel
theorem dJ6_bitCount_0f7a4_24 : decode cJ6_bitCount_0f7a4 24 = .ok (.iload_n 0, 1) := by decide +kernel
theorem dJ6_bitCount_0f7a4_25 : decode cJ6_bitCount_0f7a4 25 = .ok (.iload_n 0, 1) := by decide +kernel
theorem dJ6_bitCount_0f7a4_26 : decode cJ6_bitCount_0f7a4 26 = .ok (.iconst 4, 1) := by decide +kernel
theorem dJ6_bitCount_0f7a4_27 : decode cJ6_bitCount_0f7a4 27 = .ok (.iushr, 1) := by decide +kernel
theorem dJ6_bitCount_0f7a4_28 : decode cJ6_bitCount_0f7a4 28 = .ok (.iadd, 1) := by decide +kernel
theorem dJ6_bitCount_0f7a4_29 : decode cJ6_bitCount_0f7a4 29 = .ok (.ldc_w 267, 3) := by decide +kernel
theorem dJ6_bitCount_0f7a4_32 : decode cJ6_bitCount_0f7a4 32 = .ok (.iand, 1) := by decide +kernel
theorem dJ6_bitCount_0f7a4_33 : decode cJ6_bitCount_0f7a4 33 = .ok (.istore_n 0, 1) := by decide +kernel
theorem dJ6_bitCount_0f7a4_34 : decode cJ6_bitCount_0f7a4 34 = .ok (.iload_n 0, 1) := by decide +kernel
theorem dJ6_bitCount_0f7a4_35 : decode cJ6_bitCount_0f7a4 35 = .ok (.iload_n 0, 1) := by decide +kernel
theorem dJ6_bitCount_0f7a4_36 : decode cJ6_bitCount_0f7a4 36 = .ok (.bipush 8, 2) := by decide +kernel
theorem dJ6_bitCount_0f7a4_38 : decode cJ6_bitCount_0f7a4 38 = .ok (.iushr, 1) := by decide +kernel
theorem dJ6_bitCount_0f7a4_39 : decode cJ6_bitCount_0f7a4 39 = .ok (.iadd, 1) := by decide +kernel
theorem dJ6_bitCount_0f7a4_40 : decode cJ6_bitCount_0f7a4 40 = .ok (.istore_n 0, 1) := by decide +kernel
theorem dJ6_bitCount_0f7a4_41 : decode cJ6_bitCount_0f7a4 41 = .ok (.iload_n 0, 1) := by decide +kernel
theorem dJ6_bitCount_0f7a4_42 : decode cJ6_bitCount_0f7a4 42 = .ok (.iload_n 0, 1) := by decide +kernel
theorem dJ6_bitCount_0f7a4_43 : decode cJ6_bitCount_0f7a4 43 = .ok (.bipush 16, 2) := by decide +kernel
theorem dJ6_bitCount_0f7a4_45 : decode cJ6_bitCount_0f7a4 45 = .ok (.iushr, 1) := by decide +kernel
theorem dJ6_bitCount_0f7a4_46 : decode cJ6_bitCount_0f7a4 46 = .ok (.iadd, 1) := by decide +kernel
theorem dJ6_bitCount_0f7a4_47 : decode cJ6_bitCount_0f7a4 47 = .ok (.istore_n 0, 1) := by decide +kernel
theorem dJ6_bitCount_0f7a4_48 : decode cJ6_bitCount_0f7a4 48 = .ok (.iload_n 0, 1) := by decide +kernel
theorem dJ6_bitCount_0f7a4_49 : decode cJ6_bitCount_0f7a4 49 = .ok (.bipush 63, 2) := by decide +kernel
theorem dJ6_bitCount_0f7a4_51 : decode cJ6_bitCount_0f7a4 51 = .ok (.iand, 1) := by decide +kernel
theorem dJ6_bitCount_0f7a4_52 : decode cJ6_bitCount_0f7a4 52 = .ok (.ireturn, 1) := by decide +kernel
theorem dJ9_max_7cf53_0 : decode cJ9_max_7cf53 0 = .ok (.iload_n 0, 1) := by decide +kernel
theorem dJ9_max_7cf53_1 : decode cJ9_max_7cf53 1 = .ok (.iload_n 1, 1) := by decide +kernel
theorem dJ9_max_7cf53_2 : decode cJ9_max_7cf53 2 = .ok (.if_icmp .lt 7, 3) := by decide +kernel
theorem dJ9_max_7cf53_5 : decode cJ9_max_7cf53 5 = .ok (.iload_n 0, 1) := by decide +kernel
theorem dJ9_max_7cf53_6 : decode cJ9_max_7cf53 6 = .ok (.goto 4, 3) := by decide +kernel
theorem dJ9_max_7cf53_9 : decode cJ9_max_7cf53 9 = .ok (.iload_n 1, 1) := by decide +kernel
theorem dJ9_max_7cf53_10 : decode cJ9_max_7cf53 10 = .ok (.ireturn, 1) := by decide +kernel
theorem dJ9_max_f86c9_0 : decode cJ9_max_f86c9 0 = .ok (.lload_n 0, 1) := by decide +kernel
theorem dJ9_max_f86c9_1 : decode cJ9_max_f86c9 1 = .ok (.lload_n 2, 1) := by decide +kernel
theorem dJ9_max_f86c9_2 : decode cJ9_max_f86c9 2 = .ok (.lcmp, 1) := by decide +kernel
theorem dJ9_max_f86c9_3 : decode cJ9_max_f86c9 3 = .ok (.ifCond .lt 7, 3) := by decide +kernel
theorem dJ9_max_f86c9_6 : decode cJ9_max_f86c9 6 = .ok (.lload_n 0, 1) := by decide +kernel
theorem dJ9_max_f86c9_7 : decode cJ9_max_f86c9 7 = .ok (.goto 4, 3) := by decide +kernel
theorem dJ9_max_f86c9_10 : decode cJ9_max_f86c9 10 = .ok (.lload_n 2, 1) := by decide +kernel
theorem dJ9_max_f86c9_11 : decode cJ9_max_f86c9 11 = .ok (.lreturn, 1) := by decide +kernel
theorem dJ9_min_7cf53_0 : decode cJ9_min_7cf53 0 = .ok (.iload_n 0, 1) := by decide +kernel
theorem dJ9_min_7cf53_1 : decode cJ9_min_7cf53 1 = .ok (.iload_n 1, 1) := by decide +kernel
theorem dJ9_min_7cf53_2 : decode cJ9_min_7cf53 2 = .ok (.if_icmp .gt 7, 3) := by decide +kernel
theorem dJ9_min_7cf53_5 : decode cJ9_min_7cf53 5 = .ok (.iload_n 0, 1) := by decide +kernel
theorem dJ9_min_7cf53_6 : decode cJ9_min_7cf53 6 = .ok (.goto 4, 3) := by decide +kernel
theorem dJ9_min_7cf53_9 : decode cJ9_min_7cf53 9 = .ok (.iload_n 1, 1) := by decide +kernel
theorem dJ9_min_7cf53_10 : decode cJ9_min_7cf53 10 = .ok (.ireturn, 1) := by decide +kernel
