theorem dX3_faultOfAct_24 : decode cX3_faultOfAct 24 = .ok (.iload_n 1, 1) := by decide +kernel
theorem dX3_faultOfAct_25 : decode cX3_faultOfAct 25 = .ok (.ireturn, 1) := by decide +kernel
theorem dX3_faultOfAct_26 : decode cX3_faultOfAct 26 = .ok (.aload_n 0, 1) := by decide +kernel
theorem dX3_faultOfAct_27 : decode cX3_faultOfAct 27 = .ok (.iload_n 1, 1) := by decide +kernel
theorem dX3_faultOfAct_28 : decode cX3_faultOfAct 28 = .ok (.iconst 1, 1) := by decide +kernel
theorem dX3_faultOfAct_29 : decode cX3_faultOfAct 29 = .ok (.iadd, 1) := by decide +kernel
theorem dX3_faultOfAct_30 : decode cX3_faultOfAct 30 = .ok (.invokevirtual 26, 3) := by decide +kernel
theorem dX3_faultOfAct_33 : decode cX3_faultOfAct 33 = .ok (.istore_n 2, 1) := by decide +kernel
theorem dX3_faultOfAct_34 : decode cX3_faultOfAct 34 = .ok (.iload_n 2, 1) := by decide +kernel
theorem dX3_faultOfAct_35 : decode cX3_faultOfAct 35 = .ok (.bipush 49, 2) := by decide +kernel
theorem dX3_faultOfAct_37 : decode cX3_faultOfAct 37 = .ok (.bipush 57, 2) := by decide +kernel
theorem dX3_faultOfAct_39 : decode cX3_faultOfAct 39 = .ok (.invokestatic 33, 3) := by decide +kernel
theorem dX3_faultOfAct_42 : decode cX3_faultOfAct 42 = .ok (.ifCond .ne 15, 3) := by decide +kernel
theorem dX3_faultOfAct_45 : decode cX3_faultOfAct 45 = .ok (.iload_n 2, 1) := by decide +kernel
theorem dX3_faultOfAct_46 : decode cX3_faultOfAct 46 = .ok (.bipush 43, 2) := by decide +kernel
theorem dX3_faultOfAct_48 : decode cX3_faultOfAct 48 = .ok (.if_icmp .eq 9, 3) := by decide +kernel
theorem dX3_faultOfAct_51 : decode cX3_faultOfAct 51 = .ok (.iload_n 2, 1) := by decide +kernel
theorem dX3_faultOfAct_52 : decode cX3_faultOfAct 52 = .ok (.bipush 36, 2) := by decide +kernel
theorem dX3_faultOfAct_54 : decode cX3_faultOfAct 54 = .ok (.if_icmp .ne 6, 3) := by decide +kernel
theorem dX3_faultOfAct_57 : decode cX3_faultOfAct 57 = .ok (.bipush (-6), 2) := by decide +kernel
theorem dX3_faultOfAct_59 : decode cX3_faultOfAct 59 = .ok (.ireturn, 1) := by decide +kernel
theorem dX3_faultOfAct_60 : decode cX3_faultOfAct 60 = .ok (.iload_n 2, 1) := by decide +kernel
theorem dX3_faultOfAct_61 : decode cX3_faultOfAct 61 = .ok (.bipush 42, 2) := by decide +kernel
theorem dX3_faultOfAct_63 : decode cX3_faultOfAct 63 = .ok (.if_icmp .ne 29, 3) := by decide +kernel
theorem dX3_faultOfAct_66 : decode cX3_faultOfAct 66 = .ok (.aload_n 0, 1) := by decide +kernel
theorem dX3_faultOfAct_67 : decode cX3_faultOfAct 67 = .ok (.iload_n 1, 1) := by decide +kernel
theorem dX3_faultOfAct_68 : decode cX3_faultOfAct 68 = .ok (.iconst 2, 1) := by decide +kernel
theorem dX3_faultOfAct_69 : decode cX3_faultOfAct 69 = .ok (.iadd, 1) := by decide +kernel
theorem dX3_faultOfAct_70 : decode cX3_faultOfAct 70 = .ok (.invokevirtual 26, 3) := by decide +kernel
theorem dX3_faultOfAct_73 : decode cX3_faultOfAct 73 = .ok (.bipush 48, 2) := by decide +kernel
theorem dX3_faultOfAct_75 : decode cX3_faultOfAct 75 = .ok (.bipush 55, 2) := by decide +kernel
theorem dX3_faultOfAct_77 : decode cX3_faultOfAct 77 = .ok (.invokestatic 33, 3) := by decide +kernel
theorem dX3_faultOfAct_80 : decode cX3_faultOfAct 80 = .ok (.ifCond .eq 8, 3) := by decide +kernel
theorem dX3_faultOfAct_83 : decode cX3_faultOfAct 83 = .ok (.bipush (-6), 2) := by decide +kernel
theorem dX3_faultOfAct_85 : decode cX3_faultOfAct 85 = .ok (.goto 6, 3) := by decide +kernel
theorem dX3_faultOfAct_88 : decode cX3_faultOfAct 88 = .ok (.iload_n 1, 1) := by decide +kernel
theorem dX3_faultOfAct_89 : decode cX3_faultOfAct 89 = .ok (.iconst 2, 1) := by decide +kernel
theorem dX3_faultOfAct_90 : decode cX3_faultOfAct 90 = .ok (.iadd, 1) := by decide +kernel
theorem dX3_faultOfAct_91 : decode cX3_faultOfAct 91 = .ok (.ireturn, 1) := by decide +kernel
theorem dX3_faultOfAct_92 : decode cX3_faultOfAct 92 = .ok (.iload_n 2, 1) := by decide +kernel
theorem dX3_faultOfAct_93 : decode cX3_faultOfAct 93 = .ok (.bipush 38, 2) := by decide +kernel
theorem dX3_faultOfAct_95 : decode cX3_faultOfAct 95 = .ok (.if_icmp .eq 9, 3) := by decide +kernel
theorem dX3_faultOfAct_98 : decode cX3_faultOfAct 98 = .ok (.iload_n 2, 1) := by decide +kernel
theorem dX3_faultOfAct_99 : decode cX3_faultOfAct 99 = .ok (.bipush 61, 2) := by decide +kernel
theorem dX3_faultOfAct_101 : decode cX3_faultOfAct 101 = .ok (.if_icmp .ne 25, 3) := by decide +kernel
theorem dX3_faultOfAct_104 : decode cX3_faultOfAct 104 = .ok (.aload_n 0, 1) := by decide +kernel
theorem dX3_faultOfAct_105 : decode cX3_faultOfAct 105 = .ok (.iload_n 1, 1) := by decide +kernel
theorem dX3_faultOfAct_106 : decode cX3_faultOfAct 106 = .ok (.iconst 2, 1) := by decide +kernel
theorem dX3_faultOfAct_107 : decode cX3_faultOfAct 107 = .ok (.iadd, 1) := by decide +kernel
theorem dX3_faultOfAct_108 : decode cX3_faultOfAct 108 = .ok (.invokevirtual 26, 3) := by decide +kernel
theorem dX3_faultOfAct_111 : decode cX3_faultOfAct 111 = .ok (.invokestatic 29, 3) := by decide +kernel
theorem dX3_faultOfAct_114 : decode cX3_faultOfAct 114 = .ok (.ifCond .eq 8, 3) := by decide +kernel
theorem dX3_faultOfAct_117 : decode cX3_faultOfAct 117 = .ok (.bipush (-6), 2) := by decide +kernel
theorem dX3_faultOfAct_119 : decode cX3_faultOfAct 119 = .ok (.goto 6, 3) := by decide +kernel
theorem dX3_faultOfAct_122 : decode cX3_faultOfAct 122 = .ok (.iload_n 1, 1) := by decide +kernel
theorem dX3_faultOfAct_123 : decode cX3_faultOfAct 123 = .ok (.iconst 2, 1) := by decide +kernel
theorem dX3_faultOfAct_124 : decode cX3_faultOfAct 124 = .ok (.iadd, 1) := by decide +kernel
theorem dX3_faultOfAct_125 : decode cX3_faultOfAct 125 = .ok (.ireturn, 1) := by decide +kernel
theorem dX3_faultOfAct_126 : decode cX3_faultOfAct 126 = .ok (.iload_n 1, 1) := by decide +kernel
theorem dX3_faultOfAct_127 : decode cX3_faultOfAct 127 = .ok (.iconst 1, 1) := by decide +kernel
theorem dX3_faultOfAct_128 : decode cX3_faultOfAct 128 = .ok (.iadd, 1) := by decide +kernel
theorem dX3_faultOfAct_129 : decode cX3_faultOfAct 129 = .ok (.ireturn, 1) := by decide +kernel
set_option maxRecDepth 20000 in
theorem ggX3_kindAt_X3_signAt : GoodIn wsX3_kindAt wsX3_signAt := goodIn_r _ [5, 6, 7, 8, 9] rfl (by decide +kernel)
set_option maxRecDepth 20000 in
theorem gX3_kindAt_X3_signAt : GoodIn wsX3_kindAt (wsV RX3 26 RX3 yX3_signAt wsX3_signAt) := goodIn_app (goodIn_r _ [1, 2, 3, 4] rfl (by decide +kernel)) ggX3_kindAt_X3_signAt
theorem dX3_kindAt_0 : decode cX3_kindAt 0 = .ok (.aload_n 0, 1) := by decide +kernel
theorem dX3_kindAt_1 : decode cX3_kindAt 1 = .ok (.iload_n 1, 1) := by decide +kernel
theorem dX3_kindAt_2 : decode cX3_kindAt 2 = .ok (.invokevirtual 26, 3) := by decide +kernel
theorem dX3_kindAt_5 : decode cX3_kindAt 5 = .ok (.bipush 46, 2) := by decide +kernel
theorem dX3_kindAt_7 : decode cX3_kindAt 7 = .ok (.if_icmp .ne 6, 3) := by decide +kernel
theorem dX3_kindAt_10 : decode cX3_kindAt 10 = .ok (.bipush 6, 2) := by decide +kernel
theorem dX3_kindAt_12 : decode cX3_kindAt 12 = .ok (.ireturn, 1) := by decide +kernel
theorem dX3_kindAt_13 : decode cX3_kindAt 13 = .ok (.aload_n 0, 1) := by decide +kernel
theorem dX3_kindAt_14 : decode cX3_kindAt 14 = .ok (.iload_n 1, 1) := by decide +kernel
theorem dX3_kindAt_15 : decode cX3_kindAt 15 = .ok (.iconst 1, 1) := by decide +kernel
theorem dX3_kindAt_16 : decode cX3_kindAt 16 = .ok (.iadd, 1) := by decide +kernel
theorem dX3_kindAt_17 : decode cX3_kindAt 17 = .ok (.invokevirtual 26, 3) := by decide +kernel
theorem dX3_kindAt_20 : decode cX3_kindAt 20 = .ok (.lookupswitch 62 #[(36, 60), (38, 56), (42, 54), (43, 52), (61, 58)], 52) := by decide +kernel
theorem dX3_kindAt_72 : decode cX3_kindAt 72 = .ok (.iconst 1, 1) := by decide +kernel
theorem dX3_kindAt_73 : decode cX3_kindAt 73 = .ok (.ireturn, 1) := by decide +kernel
theorem dX3_kindAt_74 : decode cX3_kindAt 74 = .ok (.iconst 2, 1) := by decide +kernel
theorem dX3_kindAt_75 : decode cX3_kindAt 75 = .ok (.ireturn, 1) := by decide +kernel
theorem dX3_kindAt_76 : decode cX3_kindAt 76 = .ok (.iconst 3, 1) := by decide +kernel
theorem dX3_kindAt_77 : decode cX3_kindAt 77 = .ok (.ireturn, 1) := by decide +kernel
theorem dX3_kindAt_78 : decode cX3_kindAt 78 = .ok (.iconst 4, 1) := by decide +kernel
theorem dX3_kindAt_79 : decode cX3_kindAt 79 = .ok (.ireturn, 1) := by decide +kernel
theorem dX3_kindAt_80 : decode cX3_kindAt 80 = .ok (.iconst 5, 1) := by decide +kernel
theorem dX3_kindAt_81 : decode cX3_kindAt 81 = .ok (.ireturn, 1) := by decide +kernel
theorem dX3_kindAt_82 : decode cX3_kindAt 82 = .ok (.iconst 0, 1) := by decide +kernel
theorem dX3_kindAt_83 : decode cX3_kindAt 83 = .ok (.ireturn, 1) := by decide +kernel
set_option maxRecDepth 20000 in
theorem ggX3_lengthAt_X3_kindAt : GoodIn wsX3_lengthAt wsX3_kindAt := goodIn_r _ [5, 6, 7, 8, 4, 9, 10, 11, 12, 13] rfl (by decide +kernel)
set_option maxRecDepth 20000 in
theorem gX3_lengthAt_X3_kindAt : GoodIn wsX3_lengthAt (wsV RX3 37 RX3 yX3_kindAt wsX3_kindAt) := goodIn_app (goodIn_r _ [1, 2, 3, 4] rfl (by decide +kernel)) ggX3_lengthAt_X3_kindAt
theorem dX3_lengthAt_0 : decode cX3_lengthAt 0 = .ok (.aload_n 0, 1) := by decide +kernel
theorem dX3_lengthAt_1 : decode cX3_lengthAt 1 = .ok (.iload_n 1, 1) := by decide +kernel
theorem dX3_lengthAt_2 : decode cX3_lengthAt 2 = .ok (.invokevirtual 37, 3) := by decide +kernel
theorem dX3_lengthAt_5 : decode cX3_lengthAt 5 = .ok (.tableswitch 39 2 6 #[37, 37, 37, 39, 35], 35) := by decide +kernel
theorem dX3_lengthAt_40 : decode cX3_lengthAt 40 = .ok (.iconst 1, 1) := by decide +kernel
theorem dX3_lengthAt_41 : decode cX3_lengthAt 41 = .ok (.ireturn, 1) := by decide +kernel
theorem dX3_lengthAt_42 : decode cX3_lengthAt 42 = .ok (.iconst 3, 1) := by decide +kernel
theorem dX3_lengthAt_43 : decode cX3_lengthAt 43 = .ok (.ireturn, 1) := by decide +kernel
theorem dX3_lengthAt_44 : decode cX3_lengthAt 44 = .ok (.iconst 2, 1) := by decide +kernel
theorem dX3_lengthAt_45 : decode cX3_lengthAt 45 = .ok (.ireturn, 1) := by decide +kernel
set_option maxRecDepth 20000 in
theorem ggX3_whoAt_X3_signAt : GoodIn wsX3_whoAt wsX3_signAt := goodIn_r _ [5, 6, 7, 8, 9] rfl (by decide +kernel)
set_option maxRecDepth 20000 in
theorem gX3_whoAt_X3_signAt : GoodIn wsX3_whoAt (wsV RX3 26 RX3 yX3_signAt wsX3_signAt) := goodIn_app (goodIn_r _ [1, 2, 3, 4] rfl (by decide +kernel)) ggX3_whoAt_X3_signAt
theorem dX3_whoAt_0 : decode cX3_whoAt 0 = .ok (.aload_n 0, 1) := by decide +kernel
theorem dX3_whoAt_1 : decode cX3_whoAt 1 = .ok (.iload_n 1, 1) := by decide +kernel
theorem dX3_whoAt_2 : decode cX3_whoAt 2 = .ok (.invokevirtual 26, 3) := by decide +kernel
theorem dX3_whoAt_5 : decode cX3_whoAt 5 = .ok (.bipush 65, 2) := by decide +kernel
theorem dX3_whoAt_7 : decode cX3_whoAt 7 = .ok (.isub, 1) := by decide +kernel
theorem dX3_whoAt_8 : decode cX3_whoAt 8 = .ok (.ireturn, 1) := by decide +kernel
set_option maxRecDepth 20000 in
theorem ggX3_numberAt_X3_kindAt : GoodIn wsX3_numberAt wsX3_kindAt := goodIn_r _ [5, 6, 7, 8, 4, 9, 10, 11, 12, 13] rfl (by decide +kernel)
set_option maxRecDepth 20000 in
theorem gX3_numberAt_X3_kindAt : GoodIn wsX3_numberAt (wsV RX3 37 RX3 yX3_kindAt wsX3_kindAt) := goodIn_app (goodIn_r _ [1, 2, 3, 4] rfl (by decide +kernel)) ggX3_numberAt_X3_kindAt
set_option maxRecDepth 20000 in
theorem ggX3_numberAt_X3_signAt : GoodIn wsX3_numberAt wsX3_signAt := goodIn_r _ [9, 10, 11, 12, 13] rfl (by decide +kernel)
set_option maxRecDepth 20000 in
theorem gX3_numberAt_X3_signAt : GoodIn wsX3_numberAt (wsV RX3 26 RX3 yX3_signAt wsX3_signAt) := goodIn_app (goodIn_r _ [6, 7, 8, 4] rfl (by decide +kernel)) ggX3_numberAt_X3_signAt
theorem dX3_numberAt_0 : decode cX3_numberAt 0 = .ok (.aload_n 0, 1) := by decide +kernel
theorem dX3_numberAt_1 : decode cX3_numberAt 1 = .ok (.iload_n 1, 1) := by decide +kernel
theorem dX3_numberAt_2 : decode cX3_numberAt 2 = .ok (.invokevirtual 37, 3) := by decide +kernel
theorem dX3_numberAt_5 : decode cX3_numberAt 5 = .ok (.tableswitch 68 0 4 #[35, 68, 46, 57, 57], 35) := by decide +kernel
theorem dX3_numberAt_40 : decode cX3_numberAt 40 = .ok (.aload_n 0, 1) := by decide +kernel
theorem dX3_numberAt_41 : decode cX3_numberAt 41 = .ok (.iload_n 1, 1) := by decide +kernel
theorem dX3_numberAt_42 : decode cX3_numberAt 42 = .ok (.iconst 1, 1) := by decide +kernel
theorem dX3_numberAt_43 : decode cX3_numberAt 43 = .ok (.iadd, 1) := by decide +kernel
theorem dX3_numberAt_44 : decode cX3_numberAt 44 = .ok (.invokevirtual 26, 3) := by decide +kernel
theorem dX3_numberAt_47 : decode cX3_numberAt 47 = .ok (.bipush 48, 2) := by decide +kernel
theorem dX3_numberAt_49 : decode cX3_numberAt 49 = .ok (.isub, 1) := by decide +kernel
theorem dX3_numberAt_50 : decode cX3_numberAt 50 = .ok (.ireturn, 1) := by decide +kernel
theorem dX3_numberAt_51 : decode cX3_numberAt 51 = .ok (.aload_n 0, 1) := by decide +kernel
theorem dX3_numberAt_52 : decode cX3_numberAt 52 = .ok (.iload_n 1, 1) := by decide +kernel
theorem dX3_numberAt_53 : decode cX3_numberAt 53 = .ok (.iconst 2, 1) := by decide +kernel
theorem dX3_numberAt_54 : decode cX3_numberAt 54 = .ok (.iadd, 1) := by decide +kernel
theorem dX3_numberAt_55 : decode cX3_numberAt 55 = .ok (.invokevirtual 26, 3) := by decide +kernel
theorem dX3_numberAt_58 : decode cX3_numberAt 58 = .ok (.bipush 48, 2) := by decide +kernel
theorem dX3_numberAt_60 : decode cX3_numberAt 60 = .ok (.isub, 1) := by decide +kernel
theorem dX3_numberAt_61 : decode cX3_numberAt 61 = .ok (.ireturn, 1) := by decide +kernel
theorem dX3_numberAt_62 : decode cX3_numberAt 62 = .ok (.aload_n 0, 1) := by decide +kernel
theorem dX3_numberAt_63 : decode cX3_numberAt 63 = .ok (.iload_n 1, 1) := by decide +kernel
theorem dX3_numberAt_64 : decode cX3_numberAt 64 = .ok (.iconst 2, 1) := by decide +kernel
theorem dX3_numberAt_65 : decode cX3_numberAt 65 = .ok (.iadd, 1) := by decide +kernel
theorem dX3_numberAt_66 : decode cX3_numberAt 66 = .ok (.invokevirtual 26, 3) := by decide +kernel
theorem dX3_numberAt_69 : decode cX3_numberAt 69 = .ok (.bipush 65, 2) := by decide +kernel
theorem dX3_numberAt_71 : decode cX3_numberAt 71 = .ok (.isub, 1) := by decide +kernel
theorem dX3_numberAt_72 : decode cX3_numberAt 72 = .ok (.ireturn, 1) := by decide +kernel
theorem dX3_numberAt_73 : decode cX3_numberAt 73 = .ok (.iconst 0, 1) := by decide +kernel
theorem dX3_numberAt_74 : decode cX3_numberAt 74 = .ok (.ireturn, 1) := by decide +kernel
theorem dX3_signAt_0 : decode cX3_signAt 0 = .ok (.iload_n 1, 1) := by decide +kernel
theorem dX3_signAt_1 : decode cX3_signAt 1 = .ok (.ifCond .lt 26, 3) := by decide +kernel
theorem dX3_signAt_4 : decode cX3_signAt 4 = .ok (.iload_n 1, 1) := by decide +kernel
theorem dX3_signAt_5 : decode cX3_signAt 5 = .ok (.aload_n 0, 1) := by decide +kernel
theorem dX3_signAt_6 : decode cX3_signAt 6 = .ok (.getfield 9, 3) := by decide +kernel
theorem dX3_signAt_9 : decode cX3_signAt 9 = .ok (.if_icmp .ge 18, 3) := by decide +kernel
theorem dX3_signAt_12 : decode cX3_signAt 12 = .ok (.iload_n 1, 1) := by decide +kernel
theorem dX3_signAt_13 : decode cX3_signAt 13 = .ok (.bipush 60, 2) := by decide +kernel
theorem dX3_signAt_15 : decode cX3_signAt 15 = .ok (.if_icmp .ge 12, 3) := by decide +kernel
theorem dX3_signAt_18 : decode cX3_signAt 18 = .ok (.aload_n 0, 1) := by decide +kernel
theorem dX3_signAt_19 : decode cX3_signAt 19 = .ok (.getfield 15, 3) := by decide +kernel
theorem dX3_signAt_22 : decode cX3_signAt 22 = .ok (.iload_n 1, 1) := by decide +kernel
theorem dX3_signAt_23 : decode cX3_signAt 23 = .ok (.iaload, 1) := by decide +kernel
theorem dX3_signAt_24 : decode cX3_signAt 24 = .ok (.goto 4, 3) := by decide +kernel
theorem dX3_signAt_27 : decode cX3_signAt 27 = .ok (.iconst 0, 1) := by decide +kernel
theorem dX3_signAt_28 : decode cX3_signAt 28 = .ok (.ireturn, 1) := by decide +kernel
set_option maxRecDepth 20000 in
theorem ggX3_isLetter_X8_isWithin : GoodIn wsX3_isLetter wsX8_isWithin := goodIn_r _ [3] rfl (by decide +kernel)
set_option maxRecDepth 20000 in
theorem gX3_isLetter_X8_isWithin_n33 : GoodIn wsX3_isLetter (wsX8_isWithin) := ggX3_isLetter_X8_isWithin
theorem dX3_isLetter_0 : decode cX3_isLetter 0 = .ok (.iload_n 0, 1) := by decide +kernel
theorem dX3_isLetter_1 : decode cX3_isLetter 1 = .ok (.bipush 65, 2) := by decide +kernel
theorem dX3_isLetter_3 : decode cX3_isLetter 3 = .ok (.bipush 74, 2) := by decide +kernel
theorem dX3_isLetter_5 : decode cX3_isLetter 5 = .ok (.invokestatic 33, 3) := by decide +kernel
theorem dX3_isLetter_8 : decode cX3_isLetter 8 = .ok (.ireturn, 1) := by decide +kernel
theorem dX4_init_0 : decode cX4_init 0 = .ok (.aload_n 0, 1) := by decide +kernel
theorem dX4_init_1 : decode cX4_init 1 = .ok (.invokespecial 3, 3) := by decide +kernel
theorem dX4_init_4 : decode cX4_init 4 = .ok (.aload_n 0, 1) := by decide +kernel
theorem dX4_init_5 : decode cX4_init 5 = .ok (.iconst 0, 1) := by decide +kernel
theorem dX4_init_6 : decode cX4_init 6 = .ok (.putfield 9, 3) := by decide +kernel
theorem dX4_init_9 : decode cX4_init 9 = .ok (.aload_n 0, 1) := by decide +kernel
theorem dX4_init_10 : decode cX4_init 10 = .ok (.bipush 8, 2) := by decide +kernel
theorem dX4_init_12 : decode cX4_init 12 = .ok (.newarray .int, 2) := by decide +kernel
theorem dX4_init_14 : decode cX4_init 14 = .ok (.putfield 15, 3) := by decide +kernel
theorem dX4_init_17 : decode cX4_init 17 = .ok (.aload_n 0, 1) := by decide +kernel
theorem dX4_init_18 : decode cX4_init 18 = .ok (.bipush 8, 2) := by decide +kernel
theorem dX4_init_20 : decode cX4_init 20 = .ok (.newarray .int, 2) := by decide +kernel
theorem dX4_init_22 : decode cX4_init 22 = .ok (.putfield 19, 3) := by decide +kernel
theorem dX4_init_25 : decode cX4_init 25 = .ok (.return_, 1) := by decide +kernel
theorem dX4_add_0 : decode cX4_add 0 = .ok (.aload_n 0, 1) := by decide +kernel
theorem dX4_add_1 : decode cX4_add 1 = .ok (.getfield 9, 3) := by decide +kernel
theorem dX4_add_4 : decode cX4_add 4 = .ok (.bipush 8, 2) := by decide +kernel
theorem dX4_add_6 : decode cX4_add 6 = .ok (.if_icmp .lt 5, 3) := by decide +kernel
theorem dX4_add_9 : decode cX4_add 9 = .ok (.iconst 0, 1) := by decide +kernel
theorem dX4_add_10 : decode cX4_add 10 = .ok (.ireturn, 1) := by decide +kernel
theorem dX4_add_11 : decode cX4_add 11 = .ok (.aload_n 0, 1) := by decide +kernel
theorem dX4_add_12 : decode cX4_add 12 = .ok (.getfield 15, 3) := by decide +kernel
theorem dX4_add_15 : decode cX4_add 15 = .ok (.aload_n 0, 1) := by decide +kernel
theorem dX4_add_16 : decode cX4_add 16 = .ok (.getfield 9, 3) := by decide +kernel
theorem dX4_add_19 : decode cX4_add 19 = .ok (.iload_n 1, 1) := by decide +kernel
theorem dX4_add_20 : decode cX4_add 20 = .ok (.iastore, 1) := by decide +kernel
theorem dX4_add_21 : decode cX4_add 21 = .ok (.aload_n 0, 1) := by decide +kernel
theorem dX4_add_22 : decode cX4_add 22 = .ok (.getfield 19, 3) := by decide +kernel
theorem dX4_add_25 : decode cX4_add 25 = .ok (.aload_n 0, 1) := by decide +kernel
theorem dX4_add_26 : decode cX4_add 26 = .ok (.getfield 9, 3) := by decide +kernel
theorem dX4_add_29 : decode cX4_add 29 = .ok (.iload_n 2, 1) := by decide +kernel
theorem dX4_add_30 : decode cX4_add 30 = .ok (.iastore, 1) := by decide +kernel
theorem dX4_add_31 : decode cX4_add 31 = .ok (.aload_n 0, 1) := by decide +kernel
theorem dX4_add_32 : decode cX4_add 32 = .ok (.dup, 1) := by decide +kernel
theorem dX4_add_33 : decode cX4_add 33 = .ok (.getfield 9, 3) := by decide +kernel
theorem dX4_add_36 : decode cX4_add 36 = .ok (.iconst 1, 1) := by decide +kernel
theorem dX4_add_37 : decode cX4_add 37 = .ok (.iadd, 1) := by decide +kernel
theorem dX4_add_38 : decode cX4_add 38 = .ok (.putfield 9, 3) := by decide +kernel
theorem dX4_add_41 : decode cX4_add 41 = .ok (.iconst 1, 1) := by decide +kernel
theorem dX4_add_42 : decode cX4_add 42 = .ok (.ireturn, 1) := by decide +kernel
theorem dX4_copyFrom_0 : decode cX4_copyFrom 0 = .ok (.aload_n 0, 1) := by decide +kernel
theorem dX4_copyFrom_1 : decode cX4_copyFrom 1 = .ok (.aload_n 1, 1) := by decide +kernel
theorem dX4_copyFrom_2 : decode cX4_copyFrom 2 = .ok (.getfield 9, 3) := by decide +kernel
theorem dX4_copyFrom_5 : decode cX4_copyFrom 5 = .ok (.putfield 9, 3) := by decide +kernel
theorem dX4_copyFrom_8 : decode cX4_copyFrom 8 = .ok (.iconst 0, 1) := by decide +kernel
theorem dX4_copyFrom_9 : decode cX4_copyFrom 9 = .ok (.istore_n 2, 1) := by decide +kernel
theorem dX4_copyFrom_10 : decode cX4_copyFrom 10 = .ok (.iload_n 2, 1) := by decide +kernel
theorem dX4_copyFrom_11 : decode cX4_copyFrom 11 = .ok (.bipush 8, 2) := by decide +kernel
theorem dX4_copyFrom_13 : decode cX4_copyFrom 13 = .ok (.if_icmp .ge 33, 3) := by decide +kernel
theorem dX4_copyFrom_16 : decode cX4_copyFrom 16 = .ok (.aload_n 0, 1) := by decide +kernel
theorem dX4_copyFrom_17 : decode cX4_copyFrom 17 = .ok (.getfield 15, 3) := by decide +kernel
theorem dX4_copyFrom_20 : decode cX4_copyFrom 20 = .ok (.iload_n 2, 1) := by decide +kernel
theorem dX4_copyFrom_21 : decode cX4_copyFrom 21 = .ok (.aload_n 1, 1) := by decide +kernel
theorem dX4_copyFrom_22 : decode cX4_copyFrom 22 = .ok (.getfield 15, 3) := by decide +kernel
theorem dX4_copyFrom_25 : decode cX4_copyFrom 25 = .ok (.iload_n 2, 1) := by decide +kernel
theorem dX4_copyFrom_26 : decode cX4_copyFrom 26 = .ok (.iaload, 1) := by decide +kernel
theorem dX4_copyFrom_27 : decode cX4_copyFrom 27 = .ok (.iastore, 1) := by decide +kernel
theorem dX4_copyFrom_28 : decode cX4_copyFrom 28 = .ok (.aload_n 0, 1) := by decide +kernel
theorem dX4_copyFrom_29 : decode cX4_copyFrom 29 = .ok (.getfield 19, 3) := by decide +kernel
theorem dX4_copyFrom_32 : decode cX4_copyFrom 32 = .ok (.iload_n 2, 1) := by decide +kernel
theorem dX4_copyFrom_33 : decode cX4_copyFrom 33 = .ok (.aload_n 1, 1) := by decide +kernel
theorem dX4_copyFrom_34 : decode cX4_copyFrom 34 = .ok (.getfield 19, 3) := by decide +kernel
theorem dX4_copyFrom_37 : decode cX4_copyFrom 37 = .ok (.iload_n 2, 1) := by decide +kernel
theorem dX4_copyFrom_38 : decode cX4_copyFrom 38 = .ok (.iaload, 1) := by decide +kernel
theorem dX4_copyFrom_39 : decode cX4_copyFrom 39 = .ok (.iastore, 1) := by decide +kernel
theorem dX4_copyFrom_40 : decode cX4_copyFrom 40 = .ok (.iinc 2 1, 3) := by decide +kernel
theorem dX4_copyFrom_43 : decode cX4_copyFrom 43 = .ok (.goto (-33), 3) := by decide +kernel
theorem dX4_copyFrom_46 : decode cX4_copyFrom 46 = .ok (.return_, 1) := by decide +kernel
set_option maxRecDepth 20000 in
theorem ggX4_allAreSo_X6_woolBehind : GoodIn wsX4_allAreSo wsX6_woolBehind := goodIn_r _ [7, 8, 9, 10, 11] rfl (by decide +kernel)
set_option maxRecDepth 20000 in
theorem gX4_allAreSo_X6_woolBehind : GoodIn wsX4_allAreSo (va_wsS RX4 22 yX6_woolBehind wsX6_woolBehind) := goodIn_app (goodIn_r _ [4, 5, 6] rfl (by decide +kernel)) ggX4_allAreSo_X6_woolBehind
theorem dX4_allAreSo_0 : decode cX4_allAreSo 0 = .ok (.iconst 0, 1) := by decide +kernel
theorem dX4_allAreSo_1 : decode cX4_allAreSo 1 = .ok (.istore_n 3, 1) := by decide +kernel
theorem dX4_allAreSo_2 : decode cX4_allAreSo 2 = .ok (.iload_n 3, 1) := by decide +kernel
theorem dX4_allAreSo_3 : decode cX4_allAreSo 3 = .ok (.aload_n 0, 1) := by decide +kernel
theorem dX4_allAreSo_4 : decode cX4_allAreSo 4 = .ok (.getfield 9, 3) := by decide +kernel
theorem dX4_allAreSo_7 : decode cX4_allAreSo 7 = .ok (.if_icmp .ge 37, 3) := by decide +kernel
theorem dX4_allAreSo_10 : decode cX4_allAreSo 10 = .ok (.iload_n 3, 1) := by decide +kernel
theorem dX4_allAreSo_11 : decode cX4_allAreSo 11 = .ok (.bipush 8, 2) := by decide +kernel
theorem dX4_allAreSo_13 : decode cX4_allAreSo 13 = .ok (.if_icmp .ge 31, 3) := by decide +kernel
theorem dX4_allAreSo_16 : decode cX4_allAreSo 16 = .ok (.aload_n 0, 1) := by decide +kernel
theorem dX4_allAreSo_17 : decode cX4_allAreSo 17 = .ok (.getfield 15, 3) := by decide +kernel
theorem dX4_allAreSo_20 : decode cX4_allAreSo 20 = .ok (.iload_n 3, 1) := by decide +kernel
theorem dX4_allAreSo_21 : decode cX4_allAreSo 21 = .ok (.iaload, 1) := by decide +kernel
theorem dX4_allAreSo_22 : decode cX4_allAreSo 22 = .ok (.iload_n 1, 1) := by decide +kernel
theorem dX4_allAreSo_23 : decode cX4_allAreSo 23 = .ok (.iload_n 2, 1) := by decide +kernel
theorem dX4_allAreSo_24 : decode cX4_allAreSo 24 = .ok (.invokestatic 22, 3) := by decide +kernel
theorem dX4_allAreSo_27 : decode cX4_allAreSo 27 = .ok (.aload_n 0, 1) := by decide +kernel
theorem dX4_allAreSo_28 : decode cX4_allAreSo 28 = .ok (.getfield 19, 3) := by decide +kernel
theorem dX4_allAreSo_31 : decode cX4_allAreSo 31 = .ok (.iload_n 3, 1) := by decide +kernel
theorem dX4_allAreSo_32 : decode cX4_allAreSo 32 = .ok (.iaload, 1) := by decide +kernel
theorem dX4_allAreSo_33 : decode cX4_allAreSo 33 = .ok (.if_icmp .eq 5, 3) := by decide +kernel
theorem dX4_allAreSo_36 : decode cX4_allAreSo 36 = .ok (.iconst 0, 1) := by decide +kernel
theorem dX4_allAreSo_37 : decode cX4_allAreSo 37 = .ok (.ireturn, 1) := by decide +kernel
theorem dX4_allAreSo_38 : decode cX4_allAreSo 38 = .ok (.iinc 3 1, 3) := by decide +kernel
theorem dX4_allAreSo_41 : decode cX4_allAreSo 41 = .ok (.goto (-39), 3) := by decide +kernel
theorem dX4_allAreSo_44 : decode cX4_allAreSo 44 = .ok (.iconst 1, 1) := by decide +kernel
theorem dX4_allAreSo_45 : decode cX4_allAreSo 45 = .ok (.ireturn, 1) := by decide +kernel
set_option maxRecDepth 20000 in
theorem ggX5_init_X5_findMove : GoodIn wsX5_init wsX5_findMove := goodIn_r _ [10, 5, 11] rfl (by decide +kernel)
set_option maxRecDepth 20000 in
theorem gX5_init_X5_findMove : GoodIn wsX5_init (wsV RX5 15 RX5 yX5_findMove wsX5_findMove) := goodIn_app (goodIn_r _ [6, 7, 8, 9] rfl (by decide +kernel)) ggX5_init_X5_findMove
theorem dX5_init_0 : decode cX5_init 0 = .ok (.aload_n 0, 1) := by decide +kernel
theorem dX5_init_1 : decode cX5_init 1 = .ok (.invokespecial 3, 3) := by decide +kernel
theorem dX5_init_4 : decode cX5_init 4 = .ok (.aload_n 0, 1) := by decide +kernel
theorem dX5_init_5 : decode cX5_init 5 = .ok (.sipush 256, 3) := by decide +kernel
theorem dX5_init_8 : decode cX5_init 8 = .ok (.newarray .int, 2) := by decide +kernel
theorem dX5_init_10 : decode cX5_init 10 = .ok (.putfield 9, 3) := by decide +kernel
theorem dX5_init_13 : decode cX5_init 13 = .ok (.iconst 0, 1) := by decide +kernel
theorem dX5_init_14 : decode cX5_init 14 = .ok (.istore_n 1, 1) := by decide +kernel
theorem dX5_init_15 : decode cX5_init 15 = .ok (.iload_n 1, 1) := by decide +kernel
theorem dX5_init_16 : decode cX5_init 16 = .ok (.sipush 255, 3) := by decide +kernel
theorem dX5_init_19 : decode cX5_init 19 = .ok (.if_icmp .gt 20, 3) := by decide +kernel
theorem dX5_init_22 : decode cX5_init 22 = .ok (.aload_n 0, 1) := by decide +kernel
theorem dX5_init_23 : decode cX5_init 23 = .ok (.getfield 9, 3) := by decide +kernel
theorem dX5_init_26 : decode cX5_init 26 = .ok (.iload_n 1, 1) := by decide +kernel
theorem dX5_init_27 : decode cX5_init 27 = .ok (.aload_n 0, 1) := by decide +kernel
theorem dX5_init_28 : decode cX5_init 28 = .ok (.iload_n 1, 1) := by decide +kernel
theorem dX5_init_29 : decode cX5_init 29 = .ok (.invokevirtual 15, 3) := by decide +kernel
theorem dX5_init_32 : decode cX5_init 32 = .ok (.iastore, 1) := by decide +kernel
theorem dX5_init_33 : decode cX5_init 33 = .ok (.iinc 1 1, 3) := by decide +kernel
theorem dX5_init_36 : decode cX5_init 36 = .ok (.goto (-21), 3) := by decide +kernel
theorem dX5_init_39 : decode cX5_init 39 = .ok (.return_, 1) := by decide +kernel
theorem dX5_leastWinningMove_0 : decode cX5_leastWinningMove 0 = .ok (.aload_n 0, 1) := by decide +kernel
theorem dX5_leastWinningMove_1 : decode cX5_leastWinningMove 1 = .ok (.getfield 9, 3) := by decide +kernel
theorem dX5_leastWinningMove_4 : decode cX5_leastWinningMove 4 = .ok (.iload_n 1, 1) := by decide +kernel
theorem dX5_leastWinningMove_5 : decode cX5_leastWinningMove 5 = .ok (.sipush 255, 3) := by decide +kernel
theorem dX5_leastWinningMove_8 : decode cX5_leastWinningMove 8 = .ok (.iand, 1) := by decide +kernel
theorem dX5_leastWinningMove_9 : decode cX5_leastWinningMove 9 = .ok (.iaload, 1) := by decide +kernel
theorem dX5_leastWinningMove_10 : decode cX5_leastWinningMove 10 = .ok (.ireturn, 1) := by decide +kernel
theorem dX5_findMove_0 : decode cX5_findMove 0 = .ok (.iconst 0, 1) := by decide +kernel
theorem dX5_findMove_1 : decode cX5_findMove 1 = .ok (.istore_n 2, 1) := by decide +kernel
theorem dX5_findMove_2 : decode cX5_findMove 2 = .ok (.iload_n 2, 1) := by decide +kernel
theorem dX5_findMove_3 : decode cX5_findMove 3 = .ok (.bipush 8, 2) := by decide +kernel
theorem dX5_findMove_5 : decode cX5_findMove 5 = .ok (.if_icmp .ge 75, 3) := by decide +kernel
theorem dX5_findMove_8 : decode cX5_findMove 8 = .ok (.iconst 1, 1) := by decide +kernel
theorem dX5_findMove_9 : decode cX5_findMove 9 = .ok (.iload_n 2, 1) := by decide +kernel
theorem dX5_findMove_10 : decode cX5_findMove 10 = .ok (.ishl, 1) := by decide +kernel
theorem dX5_findMove_11 : decode cX5_findMove 11 = .ok (.istore_n 3, 1) := by decide +kernel
theorem dX5_findMove_12 : decode cX5_findMove 12 = .ok (.iconst 3, 1) := by decide +kernel
theorem dX5_findMove_13 : decode cX5_findMove 13 = .ok (.iload_n 2, 1) := by decide +kernel
theorem dX5_findMove_14 : decode cX5_findMove 14 = .ok (.ishl, 1) := by decide +kernel
theorem dX5_findMove_15 : decode cX5_findMove 15 = .ok (.istore 4, 2) := by decide +kernel
theorem dX5_findMove_17 : decode cX5_findMove 17 = .ok (.iload_n 1, 1) := by decide +kernel
theorem dX5_findMove_18 : decode cX5_findMove 18 = .ok (.iload_n 3, 1) := by decide +kernel
theorem dX5_findMove_19 : decode cX5_findMove 19 = .ok (.iand, 1) := by decide +kernel
theorem dX5_findMove_20 : decode cX5_findMove 20 = .ok (.iload_n 3, 1) := by decide +kernel
theorem dX5_findMove_21 : decode cX5_findMove 21 = .ok (.if_icmp .ne 23, 3) := by decide +kernel
theorem dX5_findMove_24 : decode cX5_findMove 24 = .ok (.aload_n 0, 1) := by decide +kernel
theorem dX5_findMove_25 : decode cX5_findMove 25 = .ok (.getfield 9, 3) := by decide +kernel
theorem dX5_findMove_28 : decode cX5_findMove 28 = .ok (.iload_n 1, 1) := by decide +kernel
theorem dX5_findMove_29 : decode cX5_findMove 29 = .ok (.iload_n 3, 1) := by decide +kernel
theorem dX5_findMove_30 : decode cX5_findMove 30 = .ok (.ixor, 1) := by decide +kernel
theorem dX5_findMove_31 : decode cX5_findMove 31 = .ok (.iaload, 1) := by decide +kernel
theorem dX5_findMove_32 : decode cX5_findMove 32 = .ok (.bipush (-6), 2) := by decide +kernel
theorem dX5_findMove_34 : decode cX5_findMove 34 = .ok (.if_icmp .ne 10, 3) := by decide +kernel
theorem dX5_findMove_37 : decode cX5_findMove 37 = .ok (.bipush 10, 2) := by decide +kernel
theorem dX5_findMove_39 : decode cX5_findMove 39 = .ok (.iload_n 2, 1) := by decide +kernel
theorem dX5_findMove_40 : decode cX5_findMove 40 = .ok (.imul, 1) := by decide +kernel
theorem dX5_findMove_41 : decode cX5_findMove 41 = .ok (.iconst 1, 1) := by decide +kernel
theorem dX5_findMove_42 : decode cX5_findMove 42 = .ok (.iadd, 1) := by decide +kernel
theorem dX5_findMove_43 : decode cX5_findMove 43 = .ok (.ireturn, 1) := by decide +kernel
theorem dX5_findMove_44 : decode cX5_findMove 44 = .ok (.iload_n 1, 1) := by decide +kernel
theorem dX5_findMove_45 : decode cX5_findMove 45 = .ok (.iload 4, 2) := by decide +kernel
theorem dX5_findMove_47 : decode cX5_findMove 47 = .ok (.iand, 1) := by decide +kernel
theorem dX5_findMove_48 : decode cX5_findMove 48 = .ok (.iload 4, 2) := by decide +kernel
theorem dX5_findMove_50 : decode cX5_findMove 50 = .ok (.if_icmp .ne 24, 3) := by decide +kernel
theorem dX5_findMove_53 : decode cX5_findMove 53 = .ok (.aload_n 0, 1) := by decide +kernel
theorem dX5_findMove_54 : decode cX5_findMove 54 = .ok (.getfield 9, 3) := by decide +kernel
theorem dX5_findMove_57 : decode cX5_findMove 57 = .ok (.iload_n 1, 1) := by decide +kernel
theorem dX5_findMove_58 : decode cX5_findMove 58 = .ok (.iload 4, 2) := by decide +kernel
theorem dX5_findMove_60 : decode cX5_findMove 60 = .ok (.ixor, 1) := by decide +kernel
theorem dX5_findMove_61 : decode cX5_findMove 61 = .ok (.iaload, 1) := by decide +kernel
theorem dX5_findMove_62 : decode cX5_findMove 62 = .ok (.bipush (-6), 2) := by decide +kernel
theorem dX5_findMove_64 : decode cX5_findMove 64 = .ok (.if_icmp .ne 10, 3) := by decide +kernel
theorem dX5_findMove_67 : decode cX5_findMove 67 = .ok (.bipush 10, 2) := by decide +kernel
theorem dX5_findMove_69 : decode cX5_findMove 69 = .ok (.iload_n 2, 1) := by decide +kernel
theorem dX5_findMove_70 : decode cX5_findMove 70 = .ok (.imul, 1) := by decide +kernel
theorem dX5_findMove_71 : decode cX5_findMove 71 = .ok (.iconst 2, 1) := by decide +kernel
theorem dX5_findMove_72 : decode cX5_findMove 72 = .ok (.iadd, 1) := by decide +kernel
theorem dX5_findMove_73 : decode cX5_findMove 73 = .ok (.ireturn, 1) := by decide +kernel
theorem dX5_findMove_74 : decode cX5_findMove 74 = .ok (.iinc 2 1, 3) := by decide +kernel
theorem dX5_findMove_77 : decode cX5_findMove 77 = .ok (.goto (-75), 3) := by decide +kernel
theorem dX5_findMove_80 : decode cX5_findMove 80 = .ok (.bipush (-6), 2) := by decide +kernel
theorem dX5_findMove_82 : decode cX5_findMove 82 = .ok (.ireturn, 1) := by decide +kernel
theorem dX6_init_0 : decode cX6_init 0 = .ok (.aload_n 0, 1) := by decide +kernel
theorem dX6_init_1 : decode cX6_init 1 = .ok (.invokespecial 3, 3) := by decide +kernel
theorem dX6_init_4 : decode cX6_init 4 = .ok (.aload_n 0, 1) := by decide +kernel
theorem dX6_init_5 : decode cX6_init 5 = .ok (.bipush 90, 2) := by decide +kernel
theorem dX6_init_7 : decode cX6_init 7 = .ok (.newarray .int, 2) := by decide +kernel
theorem dX6_init_9 : decode cX6_init 9 = .ok (.putfield 9, 3) := by decide +kernel
theorem dX6_init_12 : decode cX6_init 12 = .ok (.aload_n 0, 1) := by decide +kernel
theorem dX6_init_13 : decode cX6_init 13 = .ok (.bipush 100, 2) := by decide +kernel
theorem dX6_init_15 : decode cX6_init 15 = .ok (.newarray .int, 2) := by decide +kernel
theorem dX6_init_17 : decode cX6_init 17 = .ok (.putfield 15, 3) := by decide +kernel
theorem dX6_init_20 : decode cX6_init 20 = .ok (.return_, 1) := by decide +kernel
theorem dX6_woolBehind_0 : decode cX6_woolBehind 0 = .ok (.iconst 0, 1) := by decide +kernel
theorem dX6_woolBehind_1 : decode cX6_woolBehind 1 = .ok (.bipush 99, 2) := by decide +kernel
theorem dX6_woolBehind_3 : decode cX6_woolBehind 3 = .ok (.iload_n 0, 1) := by decide +kernel
theorem dX6_woolBehind_4 : decode cX6_woolBehind 4 = .ok (.iload_n 1, 1) := by decide +kernel
theorem dX6_woolBehind_5 : decode cX6_woolBehind 5 = .ok (.imul, 1) := by decide +kernel
theorem dX6_woolBehind_6 : decode cX6_woolBehind 6 = .ok (.isub, 1) := by decide +kernel
theorem dX6_woolBehind_7 : decode cX6_woolBehind 7 = .ok (.iload_n 2, 1) := by decide +kernel
theorem dX6_woolBehind_8 : decode cX6_woolBehind 8 = .ok (.iload_n 0, 1) := by decide +kernel
theorem dX6_woolBehind_9 : decode cX6_woolBehind 9 = .ok (.iconst 4, 1) := by decide +kernel
theorem dX6_woolBehind_10 : decode cX6_woolBehind 10 = .ok (.idiv, 1) := by decide +kernel
theorem dX6_woolBehind_11 : decode cX6_woolBehind 11 = .ok (.imul, 1) := by decide +kernel
theorem dX6_woolBehind_12 : decode cX6_woolBehind 12 = .ok (.isub, 1) := by decide +kernel
theorem dX6_woolBehind_13 : decode cX6_woolBehind 13 = .ok (.invokestatic 18, 3) := by decide +kernel
theorem dX6_woolBehind_16 : decode cX6_woolBehind 16 = .ok (.ireturn, 1) := by decide +kernel
set_option maxRecDepth 20000 in
theorem ggX6_fit_X4_allAreSo : GoodIn wsX6_fit wsX4_allAreSo := goodIn_r _ [7, 8, 9, 10, 11, 12, 13, 14, 15, 16, 17, 18, 24, 25, 26] rfl (by decide +kernel)
set_option maxRecDepth 20000 in
theorem gX6_fit_X4_allAreSo : GoodIn wsX6_fit (wsV RX6 28 RX4 yX4_allAreSo wsX4_allAreSo) := goodIn_app (goodIn_r _ [3, 4, 5, 6] rfl (by decide +kernel)) ggX6_fit_X4_allAreSo
theorem dX6_fit_0 : decode cX6_fit 0 = .ok (.aload_n 0, 1) := by decide +kernel
theorem dX6_fit_1 : decode cX6_fit 1 = .ok (.iconst 0, 1) := by decide +kernel
theorem dX6_fit_2 : decode cX6_fit 2 = .ok (.putfield 24, 3) := by decide +kernel
theorem dX6_fit_5 : decode cX6_fit 5 = .ok (.iconst 1, 1) := by decide +kernel
theorem dX6_fit_6 : decode cX6_fit 6 = .ok (.istore_n 2, 1) := by decide +kernel
theorem dX6_fit_7 : decode cX6_fit 7 = .ok (.iload_n 2, 1) := by decide +kernel
theorem dX6_fit_8 : decode cX6_fit 8 = .ok (.bipush 9, 2) := by decide +kernel
theorem dX6_fit_10 : decode cX6_fit 10 = .ok (.if_icmp .gt 66, 3) := by decide +kernel
theorem dX6_fit_13 : decode cX6_fit 13 = .ok (.iconst 0, 1) := by decide +kernel
theorem dX6_fit_14 : decode cX6_fit 14 = .ok (.istore_n 3, 1) := by decide +kernel
theorem dX6_fit_15 : decode cX6_fit 15 = .ok (.iload_n 3, 1) := by decide +kernel
theorem dX6_fit_16 : decode cX6_fit 16 = .ok (.bipush 9, 2) := by decide +kernel
theorem dX6_fit_18 : decode cX6_fit 18 = .ok (.if_icmp .gt 52, 3) := by decide +kernel
theorem dX6_fit_21 : decode cX6_fit 21 = .ok (.aload_n 0, 1) := by decide +kernel
theorem dX6_fit_22 : decode cX6_fit 22 = .ok (.getfield 24, 3) := by decide +kernel
theorem dX6_fit_25 : decode cX6_fit 25 = .ok (.bipush 90, 2) := by decide +kernel
theorem dX6_fit_27 : decode cX6_fit 27 = .ok (.if_icmp .ge 37, 3) := by decide +kernel
theorem dX6_fit_30 : decode cX6_fit 30 = .ok (.aload_n 1, 1) := by decide +kernel
theorem dX6_fit_31 : decode cX6_fit 31 = .ok (.iload_n 2, 1) := by decide +kernel
theorem dX6_fit_32 : decode cX6_fit 32 = .ok (.iload_n 3, 1) := by decide +kernel
theorem dX6_fit_33 : decode cX6_fit 33 = .ok (.invokevirtual 28, 3) := by decide +kernel
theorem dX6_fit_36 : decode cX6_fit 36 = .ok (.ifCond .eq 28, 3) := by decide +kernel
theorem dX6_fit_39 : decode cX6_fit 39 = .ok (.aload_n 0, 1) := by decide +kernel
theorem dX6_fit_40 : decode cX6_fit 40 = .ok (.getfield 9, 3) := by decide +kernel
theorem dX6_fit_43 : decode cX6_fit 43 = .ok (.aload_n 0, 1) := by decide +kernel
theorem dX6_fit_44 : decode cX6_fit 44 = .ok (.getfield 24, 3) := by decide +kernel
theorem dX6_fit_47 : decode cX6_fit 47 = .ok (.bipush 10, 2) := by decide +kernel
theorem dX6_fit_49 : decode cX6_fit 49 = .ok (.iload_n 2, 1) := by decide +kernel
theorem dX6_fit_50 : decode cX6_fit 50 = .ok (.imul, 1) := by decide +kernel
theorem dX6_fit_51 : decode cX6_fit 51 = .ok (.iload_n 3, 1) := by decide +kernel
theorem dX6_fit_52 : decode cX6_fit 52 = .ok (.iadd, 1) := by decide +kernel
theorem dX6_fit_53 : decode cX6_fit 53 = .ok (.iastore, 1) := by decide +kernel
theorem dX6_fit_54 : decode cX6_fit 54 = .ok (.aload_n 0, 1) := by decide +kernel
theorem dX6_fit_55 : decode cX6_fit 55 = .ok (.dup, 1) := by decide +kernel
theorem dX6_fit_56 : decode cX6_fit 56 = .ok (.getfield 24, 3) := by decide +kernel
theorem dX6_fit_59 : decode cX6_fit 59 = .ok (.iconst 1, 1) := by decide +kernel
theorem dX6_fit_60 : decode cX6_fit 60 = .ok (.iadd, 1) := by decide +kernel
theorem dX6_fit_61 : decode cX6_fit 61 = .ok (.putfield 24, 3) := by decide +kernel
theorem dX6_fit_64 : decode cX6_fit 64 = .ok (.iinc 3 1, 3) := by decide +kernel
theorem dX6_fit_67 : decode cX6_fit 67 = .ok (.goto (-52), 3) := by decide +kernel
theorem dX6_fit_70 : decode cX6_fit 70 = .ok (.iinc 2 1, 3) := by decide +kernel
theorem dX6_fit_73 : decode cX6_fit 73 = .ok (.goto (-66), 3) := by decide +kernel
theorem dX6_fit_76 : decode cX6_fit 76 = .ok (.return_, 1) := by decide +kernel
theorem dX6_fitAt_0 : decode cX6_fitAt 0 = .ok (.iload_n 1, 1) := by decide +kernel
theorem dX6_fitAt_1 : decode cX6_fitAt 1 = .ok (.ifCond .lt 26, 3) := by decide +kernel
theorem dX6_fitAt_4 : decode cX6_fitAt 4 = .ok (.iload_n 1, 1) := by decide +kernel
theorem dX6_fitAt_5 : decode cX6_fitAt 5 = .ok (.aload_n 0, 1) := by decide +kernel
theorem dX6_fitAt_6 : decode cX6_fitAt 6 = .ok (.getfield 24, 3) := by decide +kernel
theorem dX6_fitAt_9 : decode cX6_fitAt 9 = .ok (.if_icmp .ge 18, 3) := by decide +kernel
theorem dX6_fitAt_12 : decode cX6_fitAt 12 = .ok (.iload_n 1, 1) := by decide +kernel
theorem dX6_fitAt_13 : decode cX6_fitAt 13 = .ok (.bipush 90, 2) := by decide +kernel
theorem dX6_fitAt_15 : decode cX6_fitAt 15 = .ok (.if_icmp .ge 12, 3) := by decide +kernel
theorem dX6_fitAt_18 : decode cX6_fitAt 18 = .ok (.aload_n 0, 1) := by decide +kernel
theorem dX6_fitAt_19 : decode cX6_fitAt 19 = .ok (.getfield 9, 3) := by decide +kernel
theorem dX6_fitAt_22 : decode cX6_fitAt 22 = .ok (.iload_n 1, 1) := by decide +kernel
theorem dX6_fitAt_23 : decode cX6_fitAt 23 = .ok (.iaload, 1) := by decide +kernel
theorem dX6_fitAt_24 : decode cX6_fitAt 24 = .ok (.goto 5, 3) := by decide +kernel
theorem dX6_fitAt_27 : decode cX6_fitAt 27 = .ok (.bipush (-6), 2) := by decide +kernel
theorem dX6_fitAt_29 : decode cX6_fitAt 29 = .ok (.ireturn, 1) := by decide +kernel
set_option maxRecDepth 20000 in
theorem ggX6_chooseSunday_X6_mostLeftBy : GoodIn wsX6_chooseSunday wsX6_mostLeftBy := goodIn_r _ [8, 9, 3, 10, 11, 12, 13, 14, 15, 16, 7, 17, 18, 19, 20, 21, 22] rfl (by decide +kernel)
set_option maxRecDepth 20000 in
theorem gX6_chooseSunday_X6_mostLeftBy : GoodIn wsX6_chooseSunday (wsV RX6 40 RX6 yX6_mostLeftBy wsX6_mostLeftBy) := goodIn_app (goodIn_r _ [4, 5, 6, 7] rfl (by decide +kernel)) ggX6_chooseSunday_X6_mostLeftBy
theorem dX6_chooseSunday_0 : decode cX6_chooseSunday 0 = .ok (.aload_n 0, 1) := by decide +kernel
theorem dX6_chooseSunday_1 : decode cX6_chooseSunday 1 = .ok (.bipush (-6), 2) := by decide +kernel
theorem dX6_chooseSunday_3 : decode cX6_chooseSunday 3 = .ok (.putfield 34, 3) := by decide +kernel
theorem dX6_chooseSunday_6 : decode cX6_chooseSunday 6 = .ok (.aload_n 0, 1) := by decide +kernel
theorem dX6_chooseSunday_7 : decode cX6_chooseSunday 7 = .ok (.bipush (-6), 2) := by decide +kernel
theorem dX6_chooseSunday_9 : decode cX6_chooseSunday 9 = .ok (.putfield 37, 3) := by decide +kernel
theorem dX6_chooseSunday_12 : decode cX6_chooseSunday 12 = .ok (.iconst 0, 1) := by decide +kernel
theorem dX6_chooseSunday_13 : decode cX6_chooseSunday 13 = .ok (.istore_n 1, 1) := by decide +kernel
theorem dX6_chooseSunday_14 : decode cX6_chooseSunday 14 = .ok (.iload_n 1, 1) := by decide +kernel
theorem dX6_chooseSunday_15 : decode cX6_chooseSunday 15 = .ok (.bipush 60, 2) := by decide +kernel
theorem dX6_chooseSunday_17 : decode cX6_chooseSunday 17 = .ok (.if_icmp .gt 49, 3) := by decide +kernel
theorem dX6_chooseSunday_20 : decode cX6_chooseSunday 20 = .ok (.aload_n 0, 1) := by decide +kernel
theorem dX6_chooseSunday_21 : decode cX6_chooseSunday 21 = .ok (.getfield 24, 3) := by decide +kernel
theorem dX6_chooseSunday_24 : decode cX6_chooseSunday 24 = .ok (.ifCond .le 42, 3) := by decide +kernel
theorem dX6_chooseSunday_27 : decode cX6_chooseSunday 27 = .ok (.aload_n 0, 1) := by decide +kernel
theorem dX6_chooseSunday_28 : decode cX6_chooseSunday 28 = .ok (.iload_n 1, 1) := by decide +kernel
theorem dX6_chooseSunday_29 : decode cX6_chooseSunday 29 = .ok (.invokevirtual 40, 3) := by decide +kernel
theorem dX6_chooseSunday_32 : decode cX6_chooseSunday 32 = .ok (.istore_n 2, 1) := by decide +kernel
theorem dX6_chooseSunday_33 : decode cX6_chooseSunday 33 = .ok (.aload_n 0, 1) := by decide +kernel
theorem dX6_chooseSunday_34 : decode cX6_chooseSunday 34 = .ok (.getfield 34, 3) := by decide +kernel
theorem dX6_chooseSunday_37 : decode cX6_chooseSunday 37 = .ok (.bipush (-6), 2) := by decide +kernel
theorem dX6_chooseSunday_39 : decode cX6_chooseSunday 39 = .ok (.if_icmp .eq 11, 3) := by decide +kernel
theorem dX6_chooseSunday_42 : decode cX6_chooseSunday 42 = .ok (.iload_n 2, 1) := by decide +kernel
theorem dX6_chooseSunday_43 : decode cX6_chooseSunday 43 = .ok (.aload_n 0, 1) := by decide +kernel
theorem dX6_chooseSunday_44 : decode cX6_chooseSunday 44 = .ok (.getfield 37, 3) := by decide +kernel
theorem dX6_chooseSunday_47 : decode cX6_chooseSunday 47 = .ok (.if_icmp .ge 13, 3) := by decide +kernel
theorem dX6_chooseSunday_50 : decode cX6_chooseSunday 50 = .ok (.aload_n 0, 1) := by decide +kernel
theorem dX6_chooseSunday_51 : decode cX6_chooseSunday 51 = .ok (.iload_n 1, 1) := by decide +kernel
theorem dX6_chooseSunday_52 : decode cX6_chooseSunday 52 = .ok (.putfield 34, 3) := by decide +kernel
theorem dX6_chooseSunday_55 : decode cX6_chooseSunday 55 = .ok (.aload_n 0, 1) := by decide +kernel
theorem dX6_chooseSunday_56 : decode cX6_chooseSunday 56 = .ok (.iload_n 2, 1) := by decide +kernel
theorem dX6_chooseSunday_57 : decode cX6_chooseSunday 57 = .ok (.putfield 37, 3) := by decide +kernel
theorem dX6_chooseSunday_60 : decode cX6_chooseSunday 60 = .ok (.iinc 1 1, 3) := by decide +kernel
theorem dX6_chooseSunday_63 : decode cX6_chooseSunday 63 = .ok (.goto (-49), 3) := by decide +kernel
theorem dX6_chooseSunday_66 : decode cX6_chooseSunday 66 = .ok (.return_, 1) := by decide +kernel
set_option maxRecDepth 20000 in
theorem ggX6_mostLeftBy_X6_woolBehind : GoodIn wsX6_mostLeftBy wsX6_woolBehind := goodIn_r _ [11, 4, 5, 6, 7] rfl (by decide +kernel)
set_option maxRecDepth 20000 in
theorem gX6_mostLeftBy_X6_woolBehind : GoodIn wsX6_mostLeftBy (va_wsS RX6 44 yX6_woolBehind wsX6_woolBehind) := goodIn_app (goodIn_r _ [8, 9, 10] rfl (by decide +kernel)) ggX6_mostLeftBy_X6_woolBehind
theorem dX6_mostLeftBy_0 : decode cX6_mostLeftBy 0 = .ok (.iconst 0, 1) := by decide +kernel
theorem dX6_mostLeftBy_1 : decode cX6_mostLeftBy 1 = .ok (.istore_n 2, 1) := by decide +kernel
theorem dX6_mostLeftBy_2 : decode cX6_mostLeftBy 2 = .ok (.iload_n 2, 1) := by decide +kernel
theorem dX6_mostLeftBy_3 : decode cX6_mostLeftBy 3 = .ok (.bipush 100, 2) := by decide +kernel
theorem dX6_mostLeftBy_5 : decode cX6_mostLeftBy 5 = .ok (.if_icmp .ge 16, 3) := by decide +kernel
theorem dX6_mostLeftBy_8 : decode cX6_mostLeftBy 8 = .ok (.aload_n 0, 1) := by decide +kernel
theorem dX6_mostLeftBy_9 : decode cX6_mostLeftBy 9 = .ok (.getfield 15, 3) := by decide +kernel
theorem dX6_mostLeftBy_12 : decode cX6_mostLeftBy 12 = .ok (.iload_n 2, 1) := by decide +kernel
theorem dX6_mostLeftBy_13 : decode cX6_mostLeftBy 13 = .ok (.iconst 0, 1) := by decide +kernel
theorem dX6_mostLeftBy_14 : decode cX6_mostLeftBy 14 = .ok (.iastore, 1) := by decide +kernel
theorem dX6_mostLeftBy_15 : decode cX6_mostLeftBy 15 = .ok (.iinc 2 1, 3) := by decide +kernel
theorem dX6_mostLeftBy_18 : decode cX6_mostLeftBy 18 = .ok (.goto (-16), 3) := by decide +kernel
theorem dX6_mostLeftBy_21 : decode cX6_mostLeftBy 21 = .ok (.iconst 0, 1) := by decide +kernel
theorem dX6_mostLeftBy_22 : decode cX6_mostLeftBy 22 = .ok (.istore_n 2, 1) := by decide +kernel
theorem dX6_mostLeftBy_23 : decode cX6_mostLeftBy 23 = .ok (.iconst 0, 1) := by decide +kernel
theorem dX6_mostLeftBy_24 : decode cX6_mostLeftBy 24 = .ok (.istore_n 3, 1) := by decide +kernel
theorem dX6_mostLeftBy_25 : decode cX6_mostLeftBy 25 = .ok (.iload_n 3, 1) := by decide +kernel
theorem dX6_mostLeftBy_26 : decode cX6_mostLeftBy 26 = .ok (.aload_n 0, 1) := by decide +kernel
theorem dX6_mostLeftBy_27 : decode cX6_mostLeftBy 27 = .ok (.getfield 24, 3) := by decide +kernel
theorem dX6_mostLeftBy_30 : decode cX6_mostLeftBy 30 = .ok (.if_icmp .ge 69, 3) := by decide +kernel
theorem dX6_mostLeftBy_33 : decode cX6_mostLeftBy 33 = .ok (.iload_n 3, 1) := by decide +kernel
theorem dX6_mostLeftBy_34 : decode cX6_mostLeftBy 34 = .ok (.bipush 90, 2) := by decide +kernel
theorem dX6_mostLeftBy_36 : decode cX6_mostLeftBy 36 = .ok (.if_icmp .ge 63, 3) := by decide +kernel
theorem dX6_mostLeftBy_39 : decode cX6_mostLeftBy 39 = .ok (.iload_n 1, 1) := by decide +kernel
theorem dX6_mostLeftBy_40 : decode cX6_mostLeftBy 40 = .ok (.aload_n 0, 1) := by decide +kernel
theorem dX6_mostLeftBy_41 : decode cX6_mostLeftBy 41 = .ok (.getfield 9, 3) := by decide +kernel
theorem dX6_mostLeftBy_44 : decode cX6_mostLeftBy 44 = .ok (.iload_n 3, 1) := by decide +kernel
theorem dX6_mostLeftBy_45 : decode cX6_mostLeftBy 45 = .ok (.iaload, 1) := by decide +kernel
theorem dX6_mostLeftBy_46 : decode cX6_mostLeftBy 46 = .ok (.bipush 10, 2) := by decide +kernel
theorem dX6_mostLeftBy_48 : decode cX6_mostLeftBy 48 = .ok (.idiv, 1) := by decide +kernel
theorem dX6_mostLeftBy_49 : decode cX6_mostLeftBy 49 = .ok (.aload_n 0, 1) := by decide +kernel
theorem dX6_mostLeftBy_50 : decode cX6_mostLeftBy 50 = .ok (.getfield 9, 3) := by decide +kernel
theorem dX6_mostLeftBy_53 : decode cX6_mostLeftBy 53 = .ok (.iload_n 3, 1) := by decide +kernel
theorem dX6_mostLeftBy_54 : decode cX6_mostLeftBy 54 = .ok (.iaload, 1) := by decide +kernel
theorem dX6_mostLeftBy_55 : decode cX6_mostLeftBy 55 = .ok (.bipush 10, 2) := by decide +kernel
theorem dX6_mostLeftBy_57 : decode cX6_mostLeftBy 57 = .ok (.irem, 1) := by decide +kernel
theorem dX6_mostLeftBy_58 : decode cX6_mostLeftBy 58 = .ok (.invokestatic 44, 3) := by decide +kernel
theorem dX6_mostLeftBy_61 : decode cX6_mostLeftBy 61 = .ok (.istore 4, 2) := by decide +kernel
theorem dX6_mostLeftBy_63 : decode cX6_mostLeftBy 63 = .ok (.iload 4, 2) := by decide +kernel
theorem dX6_mostLeftBy_65 : decode cX6_mostLeftBy 65 = .ok (.bipush 100, 2) := by decide +kernel
theorem dX6_mostLeftBy_67 : decode cX6_mostLeftBy 67 = .ok (.if_icmp .ge 26, 3) := by decide +kernel
theorem dX6_mostLeftBy_70 : decode cX6_mostLeftBy 70 = .ok (.aload_n 0, 1) := by decide +kernel
theorem dX6_mostLeftBy_71 : decode cX6_mostLeftBy 71 = .ok (.getfield 15, 3) := by decide +kernel
theorem dX6_mostLeftBy_74 : decode cX6_mostLeftBy 74 = .ok (.iload 4, 2) := by decide +kernel
theorem dX6_mostLeftBy_76 : decode cX6_mostLeftBy 76 = .ok (.dup2, 1) := by decide +kernel
theorem dX6_mostLeftBy_77 : decode cX6_mostLeftBy 77 = .ok (.iaload, 1) := by decide +kernel
theorem dX6_mostLeftBy_78 : decode cX6_mostLeftBy 78 = .ok (.iconst 1, 1) := by decide +kernel
theorem dX6_mostLeftBy_79 : decode cX6_mostLeftBy 79 = .ok (.iadd, 1) := by decide +kernel
theorem dX6_mostLeftBy_80 : decode cX6_mostLeftBy 80 = .ok (.iastore, 1) := by decide +kernel
theorem dX6_mostLeftBy_81 : decode cX6_mostLeftBy 81 = .ok (.iload_n 2, 1) := by decide +kernel
theorem dX6_mostLeftBy_82 : decode cX6_mostLeftBy 82 = .ok (.aload_n 0, 1) := by decide +kernel
theorem dX6_mostLeftBy_83 : decode cX6_mostLeftBy 83 = .ok (.getfield 15, 3) := by decide +kernel
theorem dX6_mostLeftBy_86 : decode cX6_mostLeftBy 86 = .ok (.iload 4, 2) := by decide +kernel
theorem dX6_mostLeftBy_88 : decode cX6_mostLeftBy 88 = .ok (.iaload, 1) := by decide +kernel
theorem dX6_mostLeftBy_89 : decode cX6_mostLeftBy 89 = .ok (.invokestatic 18, 3) := by decide +kernel
theorem dX6_mostLeftBy_92 : decode cX6_mostLeftBy 92 = .ok (.istore_n 2, 1) := by decide +kernel
theorem dX6_mostLeftBy_93 : decode cX6_mostLeftBy 93 = .ok (.iinc 3 1, 3) := by decide +kernel
theorem dX6_mostLeftBy_96 : decode cX6_mostLeftBy 96 = .ok (.goto (-71), 3) := by decide +kernel
theorem dX6_mostLeftBy_99 : decode cX6_mostLeftBy 99 = .ok (.iload_n 2, 1) := by decide +kernel
theorem dX6_mostLeftBy_100 : decode cX6_mostLeftBy 100 = .ok (.ireturn, 1) := by decide +kernel
theorem dX7_init_0 : decode cX7_init 0 = .ok (.aload_n 0, 1) := by decide +kernel
theorem dX7_init_1 : decode cX7_init 1 = .ok (.invokespecial 3, 3) := by decide +kernel
theorem dX7_init_4 : decode cX7_init 4 = .ok (.return_, 1) := by decide +kernel
set_option maxRecDepth 20000 in
theorem ggX7_run_X3_kindAt : GoodIn wsX7_run wsX3_kindAt := goodIn_r _ [12, 13, 14, 15, 11, 16, 17, 18, 106, 107] rfl (by decide +kernel)
set_option maxRecDepth 20000 in
theorem gX7_run_X3_kindAt : GoodIn wsX7_run (wsV RX7 35 RX3 yX3_kindAt wsX3_kindAt) := goodIn_app (goodIn_r _ [8, 9, 10, 11] rfl (by decide +kernel)) ggX7_run_X3_kindAt
set_option maxRecDepth 20000 in
theorem ggX7_run_X3_whoAt : GoodIn wsX7_run wsX3_whoAt := goodIn_r _ [22, 13, 14, 15, 11, 16, 17, 18, 106, 107] rfl (by decide +kernel)
set_option maxRecDepth 20000 in
theorem gX7_run_X3_whoAt : GoodIn wsX7_run (wsV RX7 39 RX3 yX3_whoAt wsX3_whoAt) := goodIn_app (goodIn_r _ [19, 20, 21, 11] rfl (by decide +kernel)) ggX7_run_X3_whoAt
set_option maxRecDepth 20000 in
theorem ggX7_run_X3_numberAt : GoodIn wsX7_run wsX3_numberAt := goodIn_r _ [26, 27, 9, 10, 11, 12, 13, 14, 15, 16, 17, 18, 106, 107] rfl (by decide +kernel)
set_option maxRecDepth 20000 in
theorem gX7_run_X3_numberAt : GoodIn wsX7_run (wsV RX7 42 RX3 yX3_numberAt wsX3_numberAt) := goodIn_app (goodIn_r _ [23, 24, 25, 11] rfl (by decide +kernel)) ggX7_run_X3_numberAt
set_option maxRecDepth 20000 in
theorem ggX7_run_X1_attempt : GoodIn wsX7_run wsX1_attempt := goodIn_r _ [32, 33, 34, 35, 31, 36, 37, 38, 39, 40, 41, 42, 43, 44, 45, 46, 47, 48, 49, 50, 51, 52, 53, 54, 55, 56, 57, 58, 59, 60, 61, 62, 63, 64, 65, 66, 67, 68, 69, 70, 71, 72, 73, 74, 75, 76, 77, 78, 79, 80, 81, 82, 83, 84, 85, 86, 87, 88, 89, 108, 109, 110, 111, 112, 113] rfl (by decide +kernel)
set_option maxRecDepth 20000 in
theorem gX7_run_X1_attempt : GoodIn wsX7_run (wsV RX7 45 RX1 yX1_attempt wsX1_attempt) := goodIn_app (goodIn_r _ [28, 29, 30, 31] rfl (by decide +kernel)) ggX7_run_X1_attempt
set_option maxRecDepth 20000 in
theorem ggX7_run_X1_isThere : GoodIn wsX7_run wsX1_isThere := goodIn_r _ [43, 44, 45, 46, 47, 48, 49, 108, 109, 110, 111, 112, 113] rfl (by decide +kernel)
set_option maxRecDepth 20000 in
theorem gX7_run_X1_isThere : GoodIn wsX7_run (wsV RX7 51 RX1 yX1_isThere wsX1_isThere) := goodIn_app (goodIn_r _ [90, 41, 42, 31] rfl (by decide +kernel)) ggX7_run_X1_isThere
set_option maxRecDepth 20000 in
theorem ggX7_run_X7_noteSwept : GoodIn wsX7_run wsX7_noteSwept := goodIn_r _ [95, 4, 1, 5, 6, 100, 101, 102, 103, 104, 105] rfl (by decide +kernel)
set_option maxRecDepth 20000 in
theorem gX7_run_X7_noteSwept : GoodIn wsX7_run (wsV RX7 55 RX7 yX7_noteSwept wsX7_noteSwept) := goodIn_app (goodIn_r _ [91, 92, 93, 94] rfl (by decide +kernel)) ggX7_run_X7_noteSwept
set_option maxRecDepth 20000 in
theorem ggX7_run_X3_lengthAt : GoodIn wsX7_run wsX3_lengthAt := goodIn_r _ [99, 27, 9, 10, 11, 12, 13, 14, 15, 16, 17, 18, 106, 107] rfl (by decide +kernel)
set_option maxRecDepth 20000 in
theorem gX7_run_X3_lengthAt : GoodIn wsX7_run (wsV RX7 59 RX3 yX3_lengthAt wsX3_lengthAt) := goodIn_app (goodIn_r _ [96, 97, 98, 11] rfl (by decide +kernel)) ggX7_run_X3_lengthAt
theorem dX7_run_0 : decode cX7_run 0 = .ok (.aload_n 0, 1) := by decide +kernel
theorem dX7_run_1 : decode cX7_run 1 = .ok (.iconst 0, 1) := by decide +kernel
theorem dX7_run_2 : decode cX7_run 2 = .ok (.putfield 9, 3) := by decide +kernel
theorem dX7_run_5 : decode cX7_run 5 = .ok (.aload_n 0, 1) := by decide +kernel
theorem dX7_run_6 : decode cX7_run 6 = .ok (.bipush (-6), 2) := by decide +kernel
theorem dX7_run_8 : decode cX7_run 8 = .ok (.putfield 15, 3) := by decide +kernel
theorem dX7_run_11 : decode cX7_run 11 = .ok (.aload_n 0, 1) := by decide +kernel
theorem dX7_run_12 : decode cX7_run 12 = .ok (.bipush (-6), 2) := by decide +kernel
theorem dX7_run_14 : decode cX7_run 14 = .ok (.putfield 18, 3) := by decide +kernel
theorem dX7_run_17 : decode cX7_run 17 = .ok (.aload_n 0, 1) := by decide +kernel
theorem dX7_run_18 : decode cX7_run 18 = .ok (.iconst 0, 1) := by decide +kernel
theorem dX7_run_19 : decode cX7_run 19 = .ok (.putfield 21, 3) := by decide +kernel
theorem dX7_run_22 : decode cX7_run 22 = .ok (.aload_n 0, 1) := by decide +kernel
theorem dX7_run_23 : decode cX7_run 23 = .ok (.bipush (-6), 2) := by decide +kernel
theorem dX7_run_25 : decode cX7_run 25 = .ok (.putfield 24, 3) := by decide +kernel
theorem dX7_run_28 : decode cX7_run 28 = .ok (.aload_n 0, 1) := by decide +kernel
theorem dX7_run_29 : decode cX7_run 29 = .ok (.bipush (-6), 2) := by decide +kernel
theorem dX7_run_31 : decode cX7_run 31 = .ok (.putfield 27, 3) := by decide +kernel
theorem dX7_run_34 : decode cX7_run 34 = .ok (.iconst 0, 1) := by decide +kernel
theorem dX7_run_35 : decode cX7_run 35 = .ok (.istore_n 3, 1) := by decide +kernel
theorem dX7_run_36 : decode cX7_run 36 = .ok (.iconst 0, 1) := by decide +kernel
theorem dX7_run_37 : decode cX7_run 37 = .ok (.istore 4, 2) := by decide +kernel
theorem dX7_run_39 : decode cX7_run 39 = .ok (.iload 4, 2) := by decide +kernel
theorem dX7_run_41 : decode cX7_run 41 = .ok (.bipush 60, 2) := by decide +kernel
theorem dX7_run_43 : decode cX7_run 43 = .ok (.if_icmp .ge 102, 3) := by decide +kernel
theorem dX7_run_46 : decode cX7_run 46 = .ok (.iload_n 3, 1) := by decide +kernel
theorem dX7_run_47 : decode cX7_run 47 = .ok (.aload_n 1, 1) := by decide +kernel
theorem dX7_run_48 : decode cX7_run 48 = .ok (.getfield 30, 3) := by decide +kernel
theorem dX7_run_51 : decode cX7_run 51 = .ok (.if_icmp .ge 94, 3) := by decide +kernel
theorem dX7_run_54 : decode cX7_run 54 = .ok (.aload_n 1, 1) := by decide +kernel
theorem dX7_run_55 : decode cX7_run 55 = .ok (.iload_n 3, 1) := by decide +kernel
theorem dX7_run_56 : decode cX7_run 56 = .ok (.invokevirtual 35, 3) := by decide +kernel
theorem dX7_run_59 : decode cX7_run 59 = .ok (.istore 5, 2) := by decide +kernel
theorem dX7_run_61 : decode cX7_run 61 = .ok (.aload_n 1, 1) := by decide +kernel
theorem dX7_run_62 : decode cX7_run 62 = .ok (.iload_n 3, 1) := by decide +kernel
theorem dX7_run_63 : decode cX7_run 63 = .ok (.invokevirtual 39, 3) := by decide +kernel
theorem dX7_run_66 : decode cX7_run 66 = .ok (.istore 6, 2) := by decide +kernel
theorem dX7_run_68 : decode cX7_run 68 = .ok (.aload_n 2, 1) := by decide +kernel
theorem dX7_run_69 : decode cX7_run 69 = .ok (.iload 5, 2) := by decide +kernel
theorem dX7_run_71 : decode cX7_run 71 = .ok (.iload 6, 2) := by decide +kernel
theorem dX7_run_73 : decode cX7_run 73 = .ok (.aload_n 1, 1) := by decide +kernel
theorem dX7_run_74 : decode cX7_run 74 = .ok (.iload_n 3, 1) := by decide +kernel
theorem dX7_run_75 : decode cX7_run 75 = .ok (.invokevirtual 42, 3) := by decide +kernel
theorem dX7_run_78 : decode cX7_run 78 = .ok (.invokevirtual 45, 3) := by decide +kernel
theorem dX7_run_81 : decode cX7_run 81 = .ok (.istore 7, 2) := by decide +kernel
theorem dX7_run_83 : decode cX7_run 83 = .ok (.iload 7, 2) := by decide +kernel
theorem dX7_run_85 : decode cX7_run 85 = .ok (.ifCond .eq 16, 3) := by decide +kernel
theorem dX7_run_88 : decode cX7_run 88 = .ok (.aload_n 0, 1) := by decide +kernel
theorem dX7_run_89 : decode cX7_run 89 = .ok (.iload 4, 2) := by decide +kernel
theorem dX7_run_91 : decode cX7_run 91 = .ok (.putfield 15, 3) := by decide +kernel
theorem dX7_run_94 : decode cX7_run 94 = .ok (.aload_n 0, 1) := by decide +kernel
theorem dX7_run_95 : decode cX7_run 95 = .ok (.iload 7, 2) := by decide +kernel
theorem dX7_run_97 : decode cX7_run 97 = .ok (.putfield 18, 3) := by decide +kernel
theorem dX7_run_100 : decode cX7_run 100 = .ok (.return_, 1) := by decide +kernel
theorem dX7_run_101 : decode cX7_run 101 = .ok (.iload 5, 2) := by decide +kernel
theorem dX7_run_103 : decode cX7_run 103 = .ok (.ifCond .ne 18, 3) := by decide +kernel
theorem dX7_run_106 : decode cX7_run 106 = .ok (.aload_n 2, 1) := by decide +kernel
theorem dX7_run_107 : decode cX7_run 107 = .ok (.iload 6, 2) := by decide +kernel
theorem dX7_run_109 : decode cX7_run 109 = .ok (.invokevirtual 51, 3) := by decide +kernel
theorem dX7_run_112 : decode cX7_run 112 = .ok (.ifCond .ne 9, 3) := by decide +kernel
theorem dX7_run_115 : decode cX7_run 115 = .ok (.aload_n 0, 1) := by decide +kernel
theorem dX7_run_116 : decode cX7_run 116 = .ok (.iload 6, 2) := by decide +kernel
theorem dX7_run_118 : decode cX7_run 118 = .ok (.invokevirtual 55, 3) := by decide +kernel
theorem dX7_run_121 : decode cX7_run 121 = .ok (.aload_n 0, 1) := by decide +kernel
theorem dX7_run_122 : decode cX7_run 122 = .ok (.dup, 1) := by decide +kernel
theorem dX7_run_123 : decode cX7_run 123 = .ok (.getfield 9, 3) := by decide +kernel
theorem dX7_run_126 : decode cX7_run 126 = .ok (.iconst 1, 1) := by decide +kernel
theorem dX7_run_127 : decode cX7_run 127 = .ok (.iadd, 1) := by decide +kernel
theorem dX7_run_128 : decode cX7_run 128 = .ok (.putfield 9, 3) := by decide +kernel
theorem dX7_run_131 : decode cX7_run 131 = .ok (.iload_n 3, 1) := by decide +kernel
theorem dX7_run_132 : decode cX7_run 132 = .ok (.aload_n 1, 1) := by decide +kernel
theorem dX7_run_133 : decode cX7_run 133 = .ok (.iload_n 3, 1) := by decide +kernel
theorem dX7_run_134 : decode cX7_run 134 = .ok (.invokevirtual 59, 3) := by decide +kernel
theorem dX7_run_137 : decode cX7_run 137 = .ok (.iadd, 1) := by decide +kernel
theorem dX7_run_138 : decode cX7_run 138 = .ok (.istore_n 3, 1) := by decide +kernel
theorem dX7_run_139 : decode cX7_run 139 = .ok (.iinc 4 1, 3) := by decide +kernel
theorem dX7_run_142 : decode cX7_run 142 = .ok (.goto (-103), 3) := by decide +kernel
theorem dX7_run_145 : decode cX7_run 145 = .ok (.return_, 1) := by decide +kernel
theorem dX7_noteSwept_0 : decode cX7_noteSwept 0 = .ok (.aload_n 0, 1) := by decide +kernel
theorem dX7_noteSwept_1 : decode cX7_noteSwept 1 = .ok (.getfield 21, 3) := by decide +kernel
theorem dX7_noteSwept_4 : decode cX7_noteSwept 4 = .ok (.ifCond .ne 16, 3) := by decide +kernel
theorem dX7_noteSwept_7 : decode cX7_noteSwept 7 = .ok (.aload_n 0, 1) := by decide +kernel
theorem dX7_noteSwept_8 : decode cX7_noteSwept 8 = .ok (.aload_n 0, 1) := by decide +kernel
theorem dX7_noteSwept_9 : decode cX7_noteSwept 9 = .ok (.getfield 9, 3) := by decide +kernel
theorem dX7_noteSwept_12 : decode cX7_noteSwept 12 = .ok (.putfield 24, 3) := by decide +kernel
theorem dX7_noteSwept_15 : decode cX7_noteSwept 15 = .ok (.aload_n 0, 1) := by decide +kernel
theorem dX7_noteSwept_16 : decode cX7_noteSwept 16 = .ok (.iload_n 1, 1) := by decide +kernel
theorem dX7_noteSwept_17 : decode cX7_noteSwept 17 = .ok (.putfield 27, 3) := by decide +kernel
theorem dX7_noteSwept_20 : decode cX7_noteSwept 20 = .ok (.aload_n 0, 1) := by decide +kernel
theorem dX7_noteSwept_21 : decode cX7_noteSwept 21 = .ok (.dup, 1) := by decide +kernel
theorem dX7_noteSwept_22 : decode cX7_noteSwept 22 = .ok (.getfield 21, 3) := by decide +kernel
theorem dX7_noteSwept_25 : decode cX7_noteSwept 25 = .ok (.iconst 1, 1) := by decide +kernel
theorem dX7_noteSwept_26 : decode cX7_noteSwept 26 = .ok (.iadd, 1) := by decide +kernel
theorem dX7_noteSwept_27 : decode cX7_noteSwept 27 = .ok (.putfield 21, 3) := by decide +kernel
theorem dX7_noteSwept_30 : decode cX7_noteSwept 30 = .ok (.return_, 1) := by decide +kernel
set_option maxRecDepth 20000 in
theorem ggX8_init_X1_init : GoodIn wsX8_init wsX1_init := goodIn_r _ [40, 41, 2, 3, 42, 43, 44, 45, 46, 47, 48, 94, 95, 96, 97, 98, 99] rfl (by decide +kernel)
set_option maxRecDepth 20000 in
theorem gX8_init_X1_init : GoodIn wsX8_init (wsX1_init) := ggX8_init_X1_init
set_option maxRecDepth 20000 in
theorem ggX8_init_X3_init : GoodIn wsX8_init wsX3_init := goodIn_r _ [50, 51, 2, 3, 52, 45, 53, 110, 111] rfl (by decide +kernel)
set_option maxRecDepth 20000 in
theorem gX8_init_X3_init_n21 : GoodIn wsX8_init (wsX3_init) := ggX8_init_X3_init
set_option maxRecDepth 20000 in
theorem ggX8_init_X7_init : GoodIn wsX8_init wsX7_init := goodIn_r _ [55, 56, 2, 3] rfl (by decide +kernel)
set_option maxRecDepth 20000 in
theorem gX8_init_X7_init_n28 : GoodIn wsX8_init (wsX7_init) := ggX8_init_X7_init
set_option maxRecDepth 20000 in
theorem ggX8_init_X0_init : GoodIn wsX8_init wsX0_init := goodIn_r _ [58, 59, 2, 3, 45, 60, 61, 62, 63, 64, 118, 119, 120, 121, 122, 123, 124] rfl (by decide +kernel)
set_option maxRecDepth 20000 in
theorem gX8_init_X0_init_n35 : GoodIn wsX8_init (wsX0_init) := ggX8_init_X0_init
set_option maxRecDepth 20000 in
theorem ggX8_init_X5_init : GoodIn wsX8_init wsX5_init := goodIn_r _ [67, 68, 2, 3, 45, 69, 70, 71, 72, 23, 73, 125] rfl (by decide +kernel)
set_option maxRecDepth 20000 in
theorem gX8_init_X5_init : GoodIn wsX8_init (wsX5_init) := ggX8_init_X5_init
set_option maxRecDepth 20000 in
theorem ggX8_init_X4_init : GoodIn wsX8_init wsX4_init := goodIn_r _ [75, 76, 2, 3, 77, 45, 78, 79, 126, 127, 128] rfl (by decide +kernel)
set_option maxRecDepth 20000 in
theorem gX8_init_X4_init_n49 : GoodIn wsX8_init (wsX4_init) := ggX8_init_X4_init
set_option maxRecDepth 20000 in
theorem ggX8_init_X6_init : GoodIn wsX8_init wsX6_init := goodIn_r _ [81, 82, 2, 3, 45, 83, 84, 129, 130, 131, 132, 133] rfl (by decide +kernel)
set_option maxRecDepth 20000 in
theorem gX8_init_X6_init_n56 : GoodIn wsX8_init (wsX6_init) := ggX8_init_X6_init
set_option maxRecDepth 20000 in
theorem ggX8_init_X2_init : GoodIn wsX8_init wsX2_init := goodIn_r _ [86, 87, 2, 3, 88, 89, 5, 6, 90, 91, 26, 27, 92, 93, 39, 40, 41, 42, 43, 44, 45, 46, 47, 48, 74, 75, 76, 77, 78, 79, 134, 135, 136, 94, 95, 96, 97, 98, 99, 126, 127, 128] rfl (by decide +kernel)
set_option maxRecDepth 20000 in
theorem gX8_init_X2_init_n63 : GoodIn wsX8_init (wsX2_init) := ggX8_init_X2_init
theorem dX8_init_0 : decode cX8_init 0 = .ok (.aload_n 0, 1) := by decide +kernel
theorem dX8_init_1 : decode cX8_init 1 = .ok (.invokespecial 1, 3) := by decide +kernel
theorem dX8_init_4 : decode cX8_init 4 = .ok (.aload_n 0, 1) := by decide +kernel
theorem dX8_init_5 : decode cX8_init 5 = .ok (.new 7, 3) := by decide +kernel
theorem dX8_init_8 : decode cX8_init 8 = .ok (.dup, 1) := by decide +kernel
theorem dX8_init_9 : decode cX8_init 9 = .ok (.invokespecial 9, 3) := by decide +kernel
theorem dX8_init_12 : decode cX8_init 12 = .ok (.putfield 10, 3) := by decide +kernel
theorem dX8_init_15 : decode cX8_init 15 = .ok (.aload_n 0, 1) := by decide +kernel
theorem dX8_init_16 : decode cX8_init 16 = .ok (.new 7, 3) := by decide +kernel
theorem dX8_init_19 : decode cX8_init 19 = .ok (.dup, 1) := by decide +kernel
theorem dX8_init_20 : decode cX8_init 20 = .ok (.invokespecial 9, 3) := by decide +kernel
theorem dX8_init_23 : decode cX8_init 23 = .ok (.putfield 16, 3) := by decide +kernel
theorem dX8_init_26 : decode cX8_init 26 = .ok (.aload_n 0, 1) := by decide +kernel
theorem dX8_init_27 : decode cX8_init 27 = .ok (.new 19, 3) := by decide +kernel
theorem dX8_init_30 : decode cX8_init 30 = .ok (.dup, 1) := by decide +kernel
theorem dX8_init_31 : decode cX8_init 31 = .ok (.invokespecial 21, 3) := by decide +kernel
theorem dX8_init_34 : decode cX8_init 34 = .ok (.putfield 22, 3) := by decide +kernel
theorem dX8_init_37 : decode cX8_init 37 = .ok (.aload_n 0, 1) := by decide +kernel
theorem dX8_init_38 : decode cX8_init 38 = .ok (.new 26, 3) := by decide +kernel
theorem dX8_init_41 : decode cX8_init 41 = .ok (.dup, 1) := by decide +kernel
theorem dX8_init_42 : decode cX8_init 42 = .ok (.invokespecial 28, 3) := by decide +kernel
theorem dX8_init_45 : decode cX8_init 45 = .ok (.putfield 29, 3) := by decide +kernel
theorem dX8_init_48 : decode cX8_init 48 = .ok (.aload_n 0, 1) := by decide +kernel
theorem dX8_init_49 : decode cX8_init 49 = .ok (.new 33, 3) := by decide +kernel
theorem dX8_init_52 : decode cX8_init 52 = .ok (.dup, 1) := by decide +kernel
theorem dX8_init_53 : decode cX8_init 53 = .ok (.invokespecial 35, 3) := by decide +kernel
theorem dX8_init_56 : decode cX8_init 56 = .ok (.putfield 36, 3) := by decide +kernel
theorem dX8_init_59 : decode cX8_init 59 = .ok (.aload_n 0, 1) := by decide +kernel
theorem dX8_init_60 : decode cX8_init 60 = .ok (.new 40, 3) := by decide +kernel
theorem dX8_init_63 : decode cX8_init 63 = .ok (.dup, 1) := by decide +kernel
theorem dX8_init_64 : decode cX8_init 64 = .ok (.invokespecial 42, 3) := by decide +kernel
theorem dX8_init_67 : decode cX8_init 67 = .ok (.putfield 43, 3) := by decide +kernel
theorem dX8_init_70 : decode cX8_init 70 = .ok (.aload_n 0, 1) := by decide +kernel
theorem dX8_init_71 : decode cX8_init 71 = .ok (.new 47, 3) := by decide +kernel
theorem dX8_init_74 : decode cX8_init 74 = .ok (.dup, 1) := by decide +kernel
theorem dX8_init_75 : decode cX8_init 75 = .ok (.invokespecial 49, 3) := by decide +kernel
theorem dX8_init_78 : decode cX8_init 78 = .ok (.putfield 50, 3) := by decide +kernel
theorem dX8_init_81 : decode cX8_init 81 = .ok (.aload_n 0, 1) := by decide +kernel
theorem dX8_init_82 : decode cX8_init 82 = .ok (.new 54, 3) := by decide +kernel
theorem dX8_init_85 : decode cX8_init 85 = .ok (.dup, 1) := by decide +kernel
theorem dX8_init_86 : decode cX8_init 86 = .ok (.invokespecial 56, 3) := by decide +kernel
theorem dX8_init_89 : decode cX8_init 89 = .ok (.putfield 57, 3) := by decide +kernel
theorem dX8_init_92 : decode cX8_init 92 = .ok (.aload_n 0, 1) := by decide +kernel
theorem dX8_init_93 : decode cX8_init 93 = .ok (.new 61, 3) := by decide +kernel
theorem dX8_init_96 : decode cX8_init 96 = .ok (.dup, 1) := by decide +kernel
theorem dX8_init_97 : decode cX8_init 97 = .ok (.invokespecial 63, 3) := by decide +kernel
theorem dX8_init_100 : decode cX8_init 100 = .ok (.putfield 64, 3) := by decide +kernel
theorem dX8_init_103 : decode cX8_init 103 = .ok (.aload_n 0, 1) := by decide +kernel
theorem dX8_init_104 : decode cX8_init 104 = .ok (.new 61, 3) := by decide +kernel
theorem dX8_init_107 : decode cX8_init 107 = .ok (.dup, 1) := by decide +kernel
theorem dX8_init_108 : decode cX8_init 108 = .ok (.invokespecial 63, 3) := by decide +kernel
theorem dX8_init_111 : decode cX8_init 111 = .ok (.putfield 68, 3) := by decide +kernel
theorem dX8_init_114 : decode cX8_init 114 = .ok (.return_, 1) := by decide +kernel
set_option maxRecDepth 20000 in
theorem ggX8_hassock_X8_isHassock : GoodIn wsX8_hassock wsX8_isHassock := goodIn_r _ [5] rfl (by decide +kernel)
set_option maxRecDepth 20000 in
theorem gX8_hassock_X8_isHassock : GoodIn wsX8_hassock (va_wsS RX8 71 yX8_isHassock wsX8_isHassock) := goodIn_app (goodIn_r _ [2, 3, 4] rfl (by decide +kernel)) ggX8_hassock_X8_isHassock
set_option maxRecDepth 20000 in
theorem ggX8_hassock_X8_isWithin : GoodIn wsX8_hassock wsX8_isWithin := goodIn_r _ [8] rfl (by decide +kernel)
set_option maxRecDepth 20000 in
theorem gX8_hassock_X8_isWithin : GoodIn wsX8_hassock (va_wsS RX8 75 yX8_isWithin wsX8_isWithin) := goodIn_app (goodIn_r _ [6, 7, 4] rfl (by decide +kernel)) ggX8_hassock_X8_isWithin
set_option maxRecDepth 20000 in
theorem ggX8_hassock_X1_bring : GoodIn wsX8_hassock wsX1_bring := goodIn_r _ [13, 14, 15, 16, 38, 39, 40, 41, 42, 43] rfl (by decide +kernel)
set_option maxRecDepth 20000 in
theorem gX8_hassock_X1_bring : GoodIn wsX8_hassock (wsV RX8 79 RX1 yX1_bring wsX1_bring) := goodIn_app (goodIn_r _ [9, 10, 11, 12] rfl (by decide +kernel)) ggX8_hassock_X1_bring
set_option maxRecDepth 20000 in
theorem ggX8_hassock_X1_howMany : GoodIn wsX8_hassock wsX1_howMany := goodIn_r _ [20, 14, 21, 22, 23, 24, 25, 26, 27, 38, 39, 40, 41, 42, 43] rfl (by decide +kernel)
set_option maxRecDepth 20000 in
theorem gX8_hassock_X1_howMany : GoodIn wsX8_hassock (wsV RX8 83 RX1 yX1_howMany wsX1_howMany) := goodIn_app (goodIn_r _ [17, 18, 19, 12] rfl (by decide +kernel)) ggX8_hassock_X1_howMany
theorem dX8_hassock_0 : decode cX8_hassock 0 = .ok (.iload_n 1, 1) := by decide +kernel
theorem dX8_hassock_1 : decode cX8_hassock 1 = .ok (.invokestatic 71, 3) := by decide +kernel
theorem dX8_hassock_4 : decode cX8_hassock 4 = .ok (.ifCond .ne 5, 3) := by decide +kernel
theorem dX8_hassock_7 : decode cX8_hassock 7 = .ok (.iconst (-1), 1) := by decide +kernel
theorem dX8_hassock_8 : decode cX8_hassock 8 = .ok (.ireturn, 1) := by decide +kernel
theorem dX8_hassock_9 : decode cX8_hassock 9 = .ok (.iload_n 2, 1) := by decide +kernel
theorem dX8_hassock_10 : decode cX8_hassock 10 = .ok (.iconst 1, 1) := by decide +kernel
theorem dX8_hassock_11 : decode cX8_hassock 11 = .ok (.bipush 99, 2) := by decide +kernel
theorem dX8_hassock_13 : decode cX8_hassock 13 = .ok (.invokestatic 75, 3) := by decide +kernel
theorem dX8_hassock_16 : decode cX8_hassock 16 = .ok (.ifCond .eq 14, 3) := by decide +kernel
theorem dX8_hassock_19 : decode cX8_hassock 19 = .ok (.iload_n 3, 1) := by decide +kernel
theorem dX8_hassock_20 : decode cX8_hassock 20 = .ok (.iconst 0, 1) := by decide +kernel
theorem dX8_hassock_21 : decode cX8_hassock 21 = .ok (.sipush 255, 3) := by decide +kernel
theorem dX8_hassock_24 : decode cX8_hassock 24 = .ok (.invokestatic 75, 3) := by decide +kernel
theorem dX8_hassock_27 : decode cX8_hassock 27 = .ok (.ifCond .ne 6, 3) := by decide +kernel
theorem dX8_hassock_30 : decode cX8_hassock 30 = .ok (.bipush (-2), 2) := by decide +kernel
theorem dX8_hassock_32 : decode cX8_hassock 32 = .ok (.ireturn, 1) := by decide +kernel
theorem dX8_hassock_33 : decode cX8_hassock 33 = .ok (.aload_n 0, 1) := by decide +kernel
theorem dX8_hassock_34 : decode cX8_hassock 34 = .ok (.getfield 10, 3) := by decide +kernel
theorem dX8_hassock_37 : decode cX8_hassock 37 = .ok (.iload_n 1, 1) := by decide +kernel
theorem dX8_hassock_38 : decode cX8_hassock 38 = .ok (.iload_n 2, 1) := by decide +kernel
theorem dX8_hassock_39 : decode cX8_hassock 39 = .ok (.iload_n 3, 1) := by decide +kernel
theorem dX8_hassock_40 : decode cX8_hassock 40 = .ok (.invokevirtual 79, 3) := by decide +kernel
theorem dX8_hassock_43 : decode cX8_hassock 43 = .ok (.aload_n 0, 1) := by decide +kernel
theorem dX8_hassock_44 : decode cX8_hassock 44 = .ok (.getfield 10, 3) := by decide +kernel
theorem dX8_hassock_47 : decode cX8_hassock 47 = .ok (.invokevirtual 83, 3) := by decide +kernel
theorem dX8_hassock_50 : decode cX8_hassock 50 = .ok (.ireturn, 1) := by decide +kernel
set_option maxRecDepth 20000 in
theorem ggX8_gone_X1_isThere : GoodIn wsX8_gone wsX1_isThere := goodIn_r _ [6, 7, 8, 9, 10, 11, 12, 38, 39, 40, 41, 42, 43] rfl (by decide +kernel)
set_option maxRecDepth 20000 in
theorem gX8_gone_X1_isThere : GoodIn wsX8_gone (wsV RX8 87 RX1 yX1_isThere wsX1_isThere) := goodIn_app (goodIn_r _ [2, 3, 4, 5] rfl (by decide +kernel)) ggX8_gone_X1_isThere
set_option maxRecDepth 20000 in
theorem ggX8_gone_X1_takeAway : GoodIn wsX8_gone wsX1_takeAway := goodIn_r _ [16, 7, 38, 39, 40, 41, 42, 43] rfl (by decide +kernel)
set_option maxRecDepth 20000 in
theorem gX8_gone_X1_takeAway : GoodIn wsX8_gone (wsV RX8 90 RX1 yX1_takeAway wsX1_takeAway) := goodIn_app (goodIn_r _ [13, 14, 15, 5] rfl (by decide +kernel)) ggX8_gone_X1_takeAway
set_option maxRecDepth 20000 in
theorem ggX8_gone_X1_howMany : GoodIn wsX8_gone wsX1_howMany := goodIn_r _ [20, 7, 21, 22, 23, 24, 25, 26, 27, 38, 39, 40, 41, 42, 43] rfl (by decide +kernel)
set_option maxRecDepth 20000 in
theorem gX8_gone_X1_howMany : GoodIn wsX8_gone (wsV RX8 83 RX1 yX1_howMany wsX1_howMany) := goodIn_app (goodIn_r _ [17, 18, 19, 5] rfl (by decide +kernel)) ggX8_gone_X1_howMany
theorem dX8_gone_0 : decode cX8_gone 0 = .ok (.aload_n 0, 1) := by decide +kernel
theorem dX8_gone_1 : decode cX8_gone 1 = .ok (.getfield 10, 3) := by decide +kernel
theorem dX8_gone_4 : decode cX8_gone 4 = .ok (.iload_n 1, 1) := by decide +kernel
theorem dX8_gone_5 : decode cX8_gone 5 = .ok (.invokevirtual 87, 3) := by decide +kernel
theorem dX8_gone_8 : decode cX8_gone 8 = .ok (.ifCond .ne 5, 3) := by decide +kernel
theorem dX8_gone_11 : decode cX8_gone 11 = .ok (.iconst (-1), 1) := by decide +kernel
theorem dX8_gone_12 : decode cX8_gone 12 = .ok (.ireturn, 1) := by decide +kernel
theorem dX8_gone_13 : decode cX8_gone 13 = .ok (.aload_n 0, 1) := by decide +kernel
theorem dX8_gone_14 : decode cX8_gone 14 = .ok (.getfield 10, 3) := by decide +kernel
theorem dX8_gone_17 : decode cX8_gone 17 = .ok (.iload_n 1, 1) := by decide +kernel
theorem dX8_gone_18 : decode cX8_gone 18 = .ok (.invokevirtual 90, 3) := by decide +kernel
theorem dX8_gone_21 : decode cX8_gone 21 = .ok (.aload_n 0, 1) := by decide +kernel
theorem dX8_gone_22 : decode cX8_gone 22 = .ok (.getfield 10, 3) := by decide +kernel
theorem dX8_gone_25 : decode cX8_gone 25 = .ok (.invokevirtual 83, 3) := by decide +kernel
theorem dX8_gone_28 : decode cX8_gone 28 = .ok (.ireturn, 1) := by decide +kernel
set_option maxRecDepth 20000 in
theorem ggX8_hair_X8_isWithin : GoodIn wsX8_hair wsX8_isWithin := goodIn_r _ [6] rfl (by decide +kernel)
set_option maxRecDepth 20000 in
theorem gX8_hair_X8_isWithin : GoodIn wsX8_hair (va_wsS RX8 75 yX8_isWithin wsX8_isWithin) := goodIn_app (goodIn_r _ [3, 4, 5] rfl (by decide +kernel)) ggX8_hair_X8_isWithin
theorem dX8_hair_0 : decode cX8_hair 0 = .ok (.iload_n 1, 1) := by decide +kernel
theorem dX8_hair_1 : decode cX8_hair 1 = .ok (.iconst 0, 1) := by decide +kernel
theorem dX8_hair_2 : decode cX8_hair 2 = .ok (.sipush 999, 3) := by decide +kernel
theorem dX8_hair_5 : decode cX8_hair 5 = .ok (.invokestatic 75, 3) := by decide +kernel
theorem dX8_hair_8 : decode cX8_hair 8 = .ok (.ifCond .ne 6, 3) := by decide +kernel
theorem dX8_hair_11 : decode cX8_hair 11 = .ok (.bipush (-2), 2) := by decide +kernel
theorem dX8_hair_13 : decode cX8_hair 13 = .ok (.ireturn, 1) := by decide +kernel
theorem dX8_hair_14 : decode cX8_hair 14 = .ok (.aload_n 0, 1) := by decide +kernel
theorem dX8_hair_15 : decode cX8_hair 15 = .ok (.getfield 10, 3) := by decide +kernel
theorem dX8_hair_18 : decode cX8_hair 18 = .ok (.getfield 94, 3) := by decide +kernel
theorem dX8_hair_21 : decode cX8_hair 21 = .ok (.istore_n 2, 1) := by decide +kernel
theorem dX8_hair_22 : decode cX8_hair 22 = .ok (.aload_n 0, 1) := by decide +kernel
theorem dX8_hair_23 : decode cX8_hair 23 = .ok (.getfield 10, 3) := by decide +kernel
theorem dX8_hair_26 : decode cX8_hair 26 = .ok (.iload_n 1, 1) := by decide +kernel
theorem dX8_hair_27 : decode cX8_hair 27 = .ok (.putfield 94, 3) := by decide +kernel
theorem dX8_hair_30 : decode cX8_hair 30 = .ok (.iload_n 2, 1) := by decide +kernel
theorem dX8_hair_31 : decode cX8_hair 31 = .ok (.ireturn, 1) := by decide +kernel
set_option maxRecDepth 20000 in
theorem ggX8_swap_X8_isHassock : GoodIn wsX8_swap wsX8_isHassock := goodIn_r _ [6] rfl (by decide +kernel)
set_option maxRecDepth 20000 in
theorem gX8_swap_X8_isHassock : GoodIn wsX8_swap (va_wsS RX8 71 yX8_isHassock wsX8_isHassock) := goodIn_app (goodIn_r _ [3, 4, 5] rfl (by decide +kernel)) ggX8_swap_X8_isHassock
set_option maxRecDepth 20000 in
theorem ggX8_swap_X1_changePlaces : GoodIn wsX8_swap wsX1_changePlaces := goodIn_r _ [11, 12, 23, 24, 25, 26, 27, 28] rfl (by decide +kernel)
set_option maxRecDepth 20000 in
theorem gX8_swap_X1_changePlaces : GoodIn wsX8_swap (wsV RX8 98 RX1 yX1_changePlaces wsX1_changePlaces) := goodIn_app (goodIn_r _ [7, 8, 9, 10] rfl (by decide +kernel)) ggX8_swap_X1_changePlaces
theorem dX8_swap_0 : decode cX8_swap 0 = .ok (.iload_n 1, 1) := by decide +kernel
theorem dX8_swap_1 : decode cX8_swap 1 = .ok (.invokestatic 71, 3) := by decide +kernel
theorem dX8_swap_4 : decode cX8_swap 4 = .ok (.ifCond .eq 15, 3) := by decide +kernel
theorem dX8_swap_7 : decode cX8_swap 7 = .ok (.iload_n 2, 1) := by decide +kernel
theorem dX8_swap_8 : decode cX8_swap 8 = .ok (.invokestatic 71, 3) := by decide +kernel
theorem dX8_swap_11 : decode cX8_swap 11 = .ok (.ifCond .eq 8, 3) := by decide +kernel
theorem dX8_swap_14 : decode cX8_swap 14 = .ok (.iload_n 1, 1) := by decide +kernel
theorem dX8_swap_15 : decode cX8_swap 15 = .ok (.iload_n 2, 1) := by decide +kernel
theorem dX8_swap_16 : decode cX8_swap 16 = .ok (.if_icmp .ne 5, 3) := by decide +kernel
theorem dX8_swap_19 : decode cX8_swap 19 = .ok (.iconst (-1), 1) := by decide +kernel
theorem dX8_swap_20 : decode cX8_swap 20 = .ok (.ireturn, 1) := by decide +kernel
theorem dX8_swap_21 : decode cX8_swap 21 = .ok (.aload_n 0, 1) := by decide +kernel
theorem dX8_swap_22 : decode cX8_swap 22 = .ok (.getfield 10, 3) := by decide +kernel
theorem dX8_swap_25 : decode cX8_swap 25 = .ok (.iload_n 1, 1) := by decide +kernel
theorem dX8_swap_26 : decode cX8_swap 26 = .ok (.iload_n 2, 1) := by decide +kernel
theorem dX8_swap_27 : decode cX8_swap 27 = .ok (.invokevirtual 98, 3) := by decide +kernel
theorem dX8_swap_30 : decode cX8_swap 30 = .ok (.aload_n 0, 1) := by decide +kernel
theorem dX8_swap_31 : decode cX8_swap 31 = .ok (.getfield 10, 3) := by decide +kernel
theorem dX8_swap_34 : decode cX8_swap 34 = .ok (.getfield 102, 3) := by decide +kernel
theorem dX8_swap_37 : decode cX8_swap 37 = .ok (.iload_n 1, 1) := by decide +kernel
theorem dX8_swap_38 : decode cX8_swap 38 = .ok (.iaload, 1) := by decide +kernel
theorem dX8_swap_39 : decode cX8_swap 39 = .ok (.ireturn, 1) := by decide +kernel
set_option maxRecDepth 20000 in
theorem ggX8_say_X8_isWithin : GoodIn wsX8_say wsX8_isWithin := goodIn_r _ [6] rfl (by decide +kernel)
set_option maxRecDepth 20000 in
theorem gX8_say_X8_isWithin : GoodIn wsX8_say (va_wsS RX8 75 yX8_isWithin wsX8_isWithin) := goodIn_app (goodIn_r _ [3, 4, 5] rfl (by decide +kernel)) ggX8_say_X8_isWithin
set_option maxRecDepth 20000 in
theorem ggX8_say_X3_write : GoodIn wsX8_say wsX3_write := goodIn_r _ [11, 12, 13, 24, 25] rfl (by decide +kernel)
set_option maxRecDepth 20000 in
theorem gX8_say_X3_write : GoodIn wsX8_say (wsV RX8 106 RX3 yX3_write wsX3_write) := goodIn_app (goodIn_r _ [7, 8, 9, 10] rfl (by decide +kernel)) ggX8_say_X3_write
theorem dX8_say_0 : decode cX8_say 0 = .ok (.iload_n 1, 1) := by decide +kernel
theorem dX8_say_1 : decode cX8_say 1 = .ok (.bipush 33, 2) := by decide +kernel
theorem dX8_say_3 : decode cX8_say 3 = .ok (.bipush 126, 2) := by decide +kernel
theorem dX8_say_5 : decode cX8_say 5 = .ok (.invokestatic 75, 3) := by decide +kernel
theorem dX8_say_8 : decode cX8_say 8 = .ok (.ifCond .ne 6, 3) := by decide +kernel
theorem dX8_say_11 : decode cX8_say 11 = .ok (.bipush (-2), 2) := by decide +kernel
theorem dX8_say_13 : decode cX8_say 13 = .ok (.ireturn, 1) := by decide +kernel
theorem dX8_say_14 : decode cX8_say 14 = .ok (.aload_n 0, 1) := by decide +kernel
theorem dX8_say_15 : decode cX8_say 15 = .ok (.getfield 22, 3) := by decide +kernel
theorem dX8_say_18 : decode cX8_say 18 = .ok (.iload_n 1, 1) := by decide +kernel
theorem dX8_say_19 : decode cX8_say 19 = .ok (.invokevirtual 106, 3) := by decide +kernel
theorem dX8_say_22 : decode cX8_say 22 = .ok (.ifCond .eq 13, 3) := by decide +kernel
theorem dX8_say_25 : decode cX8_say 25 = .ok (.aload_n 0, 1) := by decide +kernel
theorem dX8_say_26 : decode cX8_say 26 = .ok (.getfield 22, 3) := by decide +kernel
theorem dX8_say_29 : decode cX8_say 29 = .ok (.getfield 109, 3) := by decide +kernel
theorem dX8_say_32 : decode cX8_say 32 = .ok (.goto 5, 3) := by decide +kernel
theorem dX8_say_35 : decode cX8_say 35 = .ok (.bipush (-4), 2) := by decide +kernel
theorem dX8_say_37 : decode cX8_say 37 = .ok (.ireturn, 1) := by decide +kernel
set_option maxRecDepth 20000 in
theorem ggX8_wipe_X3_clear : GoodIn wsX8_wipe wsX3_clear := goodIn_r _ [7, 8, 19, 20] rfl (by decide +kernel)
set_option maxRecDepth 20000 in
theorem gX8_wipe_X3_clear : GoodIn wsX8_wipe (wsV RX8 112 RX3 yX3_clear wsX3_clear) := goodIn_app (goodIn_r _ [3, 4, 5, 6] rfl (by decide +kernel)) ggX8_wipe_X3_clear
theorem dX8_wipe_0 : decode cX8_wipe 0 = .ok (.aload_n 0, 1) := by decide +kernel
theorem dX8_wipe_1 : decode cX8_wipe 1 = .ok (.getfield 22, 3) := by decide +kernel
theorem dX8_wipe_4 : decode cX8_wipe 4 = .ok (.getfield 109, 3) := by decide +kernel
theorem dX8_wipe_7 : decode cX8_wipe 7 = .ok (.istore_n 1, 1) := by decide +kernel
theorem dX8_wipe_8 : decode cX8_wipe 8 = .ok (.aload_n 0, 1) := by decide +kernel
theorem dX8_wipe_9 : decode cX8_wipe 9 = .ok (.getfield 22, 3) := by decide +kernel
theorem dX8_wipe_12 : decode cX8_wipe 12 = .ok (.invokevirtual 112, 3) := by decide +kernel
theorem dX8_wipe_15 : decode cX8_wipe 15 = .ok (.iload_n 1, 1) := by decide +kernel
theorem dX8_wipe_16 : decode cX8_wipe 16 = .ok (.ireturn, 1) := by decide +kernel
set_option maxRecDepth 20000 in
theorem ggX8_fault_X3_firstFault : GoodIn wsX8_fault wsX3_firstFault := goodIn_r _ [6, 7, 8, 9, 10, 5, 11, 12, 13, 14, 15, 16, 17, 18, 19, 20, 21, 22, 23, 24, 25, 26, 27, 28, 29, 30, 41, 42] rfl (by decide +kernel)
set_option maxRecDepth 20000 in
theorem gX8_fault_X3_firstFault : GoodIn wsX8_fault (wsV RX8 115 RX3 yX3_firstFault wsX3_firstFault) := goodIn_app (goodIn_r _ [2, 3, 4, 5] rfl (by decide +kernel)) ggX8_fault_X3_firstFault
theorem dX8_fault_0 : decode cX8_fault 0 = .ok (.aload_n 0, 1) := by decide +kernel
theorem dX8_fault_1 : decode cX8_fault 1 = .ok (.getfield 22, 3) := by decide +kernel
theorem dX8_fault_4 : decode cX8_fault 4 = .ok (.invokevirtual 115, 3) := by decide +kernel
theorem dX8_fault_7 : decode cX8_fault 7 = .ok (.ireturn, 1) := by decide +kernel
set_option maxRecDepth 20000 in
theorem ggX8_judge_X8_isWithin : GoodIn wsX8_judge wsX8_isWithin := goodIn_r _ [8] rfl (by decide +kernel)
set_option maxRecDepth 20000 in
theorem gX8_judge_X8_isWithin : GoodIn wsX8_judge (va_wsS RX8 75 yX8_isWithin wsX8_isWithin) := goodIn_app (goodIn_r _ [5, 6, 7] rfl (by decide +kernel)) ggX8_judge_X8_isWithin
set_option maxRecDepth 20000 in
theorem ggX8_judge_X8_tryText : GoodIn wsX8_judge wsX8_tryText := goodIn_r _ [12, 13, 14, 15, 1, 2, 16, 17, 18, 19, 20, 21, 22, 23, 24, 25, 26, 27, 28, 29, 30, 31, 32, 33, 6, 7, 8, 34, 35, 36, 37, 38, 39, 40, 41, 42, 43, 44, 45, 46, 47, 48, 49, 50, 51, 52, 53, 54, 55, 56, 57, 58, 59, 60, 61, 62, 63, 64, 65, 66, 67, 68, 69, 70, 71, 72, 73, 74, 75, 76, 77, 78, 79, 80, 81, 82, 83, 84, 85, 86, 87, 88, 89, 90, 91, 92, 93, 94, 95, 96, 97, 98, 99, 100, 101, 102, 103, 104, 105, 106, 107, 108, 109, 110, 111, 112, 113, 114, 115, 116, 117, 118, 119, 120, 121, 122, 123, 124, 125, 126, 127, 128, 129, 130, 131, 132, 133, 134, 135, 136, 137, 138, 139, 140, 141, 142, 143, 144, 145, 146, 147, 148, 149, 150, 151, 152, 153, 154, 155, 156, 157] rfl (by decide +kernel)
set_option maxRecDepth 20000 in
theorem gX8_judge_X8_tryText : GoodIn wsX8_judge (wsV RX8 118 RX8 yX8_tryText wsX8_tryText) := goodIn_app (goodIn_r _ [9, 10, 11, 7] rfl (by decide +kernel)) ggX8_judge_X8_tryText
theorem dX8_judge_0 : decode cX8_judge 0 = .ok (.iload_n 1, 1) := by decide +kernel
theorem dX8_judge_1 : decode cX8_judge 1 = .ok (.iconst 0, 1) := by decide +kernel
theorem dX8_judge_2 : decode cX8_judge 2 = .ok (.iconst 2, 1) := by decide +kernel
theorem dX8_judge_3 : decode cX8_judge 3 = .ok (.invokestatic 75, 3) := by decide +kernel
theorem dX8_judge_6 : decode cX8_judge 6 = .ok (.ifCond .ne 6, 3) := by decide +kernel
theorem dX8_judge_9 : decode cX8_judge 9 = .ok (.bipush (-2), 2) := by decide +kernel
theorem dX8_judge_11 : decode cX8_judge 11 = .ok (.ireturn, 1) := by decide +kernel
theorem dX8_judge_12 : decode cX8_judge 12 = .ok (.aload_n 0, 1) := by decide +kernel
theorem dX8_judge_13 : decode cX8_judge 13 = .ok (.invokevirtual 118, 3) := by decide +kernel
theorem dX8_judge_16 : decode cX8_judge 16 = .ok (.istore_n 2, 1) := by decide +kernel
theorem dX8_judge_17 : decode cX8_judge 17 = .ok (.iload_n 2, 1) := by decide +kernel
theorem dX8_judge_18 : decode cX8_judge 18 = .ok (.bipush (-5), 2) := by decide +kernel
theorem dX8_judge_20 : decode cX8_judge 20 = .ok (.if_icmp .ne 6, 3) := by decide +kernel
theorem dX8_judge_23 : decode cX8_judge 23 = .ok (.bipush (-5), 2) := by decide +kernel
theorem dX8_judge_25 : decode cX8_judge 25 = .ok (.ireturn, 1) := by decide +kernel
theorem dX8_judge_26 : decode cX8_judge 26 = .ok (.iload_n 1, 1) := by decide +kernel
theorem dX8_judge_27 : decode cX8_judge 27 = .ok (.ifCond .ne 11, 3) := by decide +kernel
theorem dX8_judge_30 : decode cX8_judge 30 = .ok (.aload_n 0, 1) := by decide +kernel
theorem dX8_judge_31 : decode cX8_judge 31 = .ok (.getfield 29, 3) := by decide +kernel
theorem dX8_judge_34 : decode cX8_judge 34 = .ok (.getfield 121, 3) := by decide +kernel
theorem dX8_judge_37 : decode cX8_judge 37 = .ok (.ireturn, 1) := by decide +kernel
theorem dX8_judge_38 : decode cX8_judge 38 = .ok (.iload_n 1, 1) := by decide +kernel
theorem dX8_judge_39 : decode cX8_judge 39 = .ok (.iconst 1, 1) := by decide +kernel
theorem dX8_judge_40 : decode cX8_judge 40 = .ok (.if_icmp .ne 11, 3) := by decide +kernel
theorem dX8_judge_43 : decode cX8_judge 43 = .ok (.aload_n 0, 1) := by decide +kernel
theorem dX8_judge_44 : decode cX8_judge 44 = .ok (.getfield 29, 3) := by decide +kernel
theorem dX8_judge_47 : decode cX8_judge 47 = .ok (.getfield 124, 3) := by decide +kernel
theorem dX8_judge_50 : decode cX8_judge 50 = .ok (.ireturn, 1) := by decide +kernel
theorem dX8_judge_51 : decode cX8_judge 51 = .ok (.iload_n 2, 1) := by decide +kernel
theorem dX8_judge_52 : decode cX8_judge 52 = .ok (.bipush (-3), 2) := by decide +kernel
theorem dX8_judge_54 : decode cX8_judge 54 = .ok (.if_icmp .ne 8, 3) := by decide +kernel
theorem dX8_judge_57 : decode cX8_judge 57 = .ok (.bipush (-3), 2) := by decide +kernel
theorem dX8_judge_59 : decode cX8_judge 59 = .ok (.goto 10, 3) := by decide +kernel
theorem dX8_judge_62 : decode cX8_judge 62 = .ok (.aload_n 0, 1) := by decide +kernel
theorem dX8_judge_63 : decode cX8_judge 63 = .ok (.getfield 29, 3) := by decide +kernel
theorem dX8_judge_66 : decode cX8_judge 66 = .ok (.getfield 127, 3) := by decide +kernel
theorem dX8_judge_69 : decode cX8_judge 69 = .ok (.ireturn, 1) := by decide +kernel
set_option maxRecDepth 20000 in
theorem ggX8_behind_X8_isHassock : GoodIn wsX8_behind wsX8_isHassock := goodIn_r _ [8] rfl (by decide +kernel)
set_option maxRecDepth 20000 in
theorem gX8_behind_X8_isHassock : GoodIn wsX8_behind (va_wsS RX8 71 yX8_isHassock wsX8_isHassock) := goodIn_app (goodIn_r _ [5, 6, 7] rfl (by decide +kernel)) ggX8_behind_X8_isHassock
set_option maxRecDepth 20000 in
theorem ggX8_behind_X8_isWithin : GoodIn wsX8_behind wsX8_isWithin := goodIn_r _ [11] rfl (by decide +kernel)
set_option maxRecDepth 20000 in
theorem gX8_behind_X8_isWithin : GoodIn wsX8_behind (va_wsS RX8 75 yX8_isWithin wsX8_isWithin) := goodIn_app (goodIn_r _ [9, 10, 7] rfl (by decide +kernel)) ggX8_behind_X8_isWithin
set_option maxRecDepth 20000 in
theorem ggX8_behind_X8_tryText : GoodIn wsX8_behind wsX8_tryText := goodIn_r _ [15, 16, 1, 17, 18, 19, 20, 21, 22, 23, 24, 25, 26, 27, 28, 29, 30, 31, 32, 33, 34, 35, 36, 37, 10, 7, 11, 38, 39, 40, 41, 42, 43, 44, 45, 46, 47, 48, 49, 50, 51, 52, 53, 54, 55, 56, 57, 58, 59, 60, 61, 62, 63, 64, 65, 66, 67, 68, 69, 70, 71, 72, 73, 74, 75, 76, 77, 78, 79, 80, 81, 82, 83, 84, 85, 86, 87, 88, 89, 6, 8, 90, 91, 92, 93, 94, 95, 96, 97, 98, 99, 100, 101, 102, 103, 104, 105, 106, 107, 108, 109, 110, 111, 112, 113, 114, 115, 116, 117, 118, 119, 120, 121, 122, 123, 124, 125, 126, 127, 128, 129, 130, 131, 132, 133, 134, 135, 137, 138, 139, 140, 141, 142, 143, 144, 145, 146, 153, 154, 155, 156, 157, 158, 159, 160, 147, 148, 149, 150, 151, 152] rfl (by decide +kernel)
set_option maxRecDepth 20000 in
theorem gX8_behind_X8_tryText : GoodIn wsX8_behind (wsV RX8 118 RX8 yX8_tryText wsX8_tryText) := goodIn_app (goodIn_r _ [12, 13, 14, 7] rfl (by decide +kernel)) ggX8_behind_X8_tryText
set_option maxRecDepth 20000 in
theorem ggX8_behind_X1_isThere : GoodIn wsX8_behind wsX1_isThere := goodIn_r _ [89, 51, 6, 7, 8, 90, 91, 147, 148, 149, 150, 151, 152] rfl (by decide +kernel)
set_option maxRecDepth 20000 in
theorem gX8_behind_X1_isThere : GoodIn wsX8_behind (wsV RX8 87 RX1 yX1_isThere wsX1_isThere) := goodIn_app (goodIn_r _ [136, 87, 88, 49] rfl (by decide +kernel)) ggX8_behind_X1_isThere
theorem dX8_behind_0 : decode cX8_behind 0 = .ok (.iload_n 1, 1) := by decide +kernel
theorem dX8_behind_1 : decode cX8_behind 1 = .ok (.invokestatic 71, 3) := by decide +kernel
theorem dX8_behind_4 : decode cX8_behind 4 = .ok (.ifCond .ne 5, 3) := by decide +kernel
theorem dX8_behind_7 : decode cX8_behind 7 = .ok (.iconst (-1), 1) := by decide +kernel
theorem dX8_behind_8 : decode cX8_behind 8 = .ok (.ireturn, 1) := by decide +kernel
theorem dX8_behind_9 : decode cX8_behind 9 = .ok (.iload_n 2, 1) := by decide +kernel
theorem dX8_behind_10 : decode cX8_behind 10 = .ok (.iconst 0, 1) := by decide +kernel
theorem dX8_behind_11 : decode cX8_behind 11 = .ok (.iconst 3, 1) := by decide +kernel
theorem dX8_behind_12 : decode cX8_behind 12 = .ok (.invokestatic 75, 3) := by decide +kernel
theorem dX8_behind_15 : decode cX8_behind 15 = .ok (.ifCond .ne 6, 3) := by decide +kernel
theorem dX8_behind_18 : decode cX8_behind 18 = .ok (.bipush (-2), 2) := by decide +kernel
theorem dX8_behind_20 : decode cX8_behind 20 = .ok (.ireturn, 1) := by decide +kernel
theorem dX8_behind_21 : decode cX8_behind 21 = .ok (.aload_n 0, 1) := by decide +kernel
theorem dX8_behind_22 : decode cX8_behind 22 = .ok (.invokevirtual 118, 3) := by decide +kernel
theorem dX8_behind_25 : decode cX8_behind 25 = .ok (.istore_n 3, 1) := by decide +kernel
theorem dX8_behind_26 : decode cX8_behind 26 = .ok (.iload_n 3, 1) := by decide +kernel
theorem dX8_behind_27 : decode cX8_behind 27 = .ok (.ifCond .eq 5, 3) := by decide +kernel
theorem dX8_behind_30 : decode cX8_behind 30 = .ok (.iload_n 3, 1) := by decide +kernel
theorem dX8_behind_31 : decode cX8_behind 31 = .ok (.ireturn, 1) := by decide +kernel
theorem dX8_behind_32 : decode cX8_behind 32 = .ok (.iload_n 2, 1) := by decide +kernel
theorem dX8_behind_33 : decode cX8_behind 33 = .ok (.iconst 3, 1) := by decide +kernel
theorem dX8_behind_34 : decode cX8_behind 34 = .ok (.if_icmp .ne 13, 3) := by decide +kernel
theorem dX8_behind_37 : decode cX8_behind 37 = .ok (.aload_n 0, 1) := by decide +kernel
theorem dX8_behind_38 : decode cX8_behind 38 = .ok (.getfield 16, 3) := by decide +kernel
theorem dX8_behind_41 : decode cX8_behind 41 = .ok (.getfield 102, 3) := by decide +kernel
theorem dX8_behind_44 : decode cX8_behind 44 = .ok (.iload_n 1, 1) := by decide +kernel
theorem dX8_behind_45 : decode cX8_behind 45 = .ok (.iaload, 1) := by decide +kernel
theorem dX8_behind_46 : decode cX8_behind 46 = .ok (.ireturn, 1) := by decide +kernel
theorem dX8_behind_47 : decode cX8_behind 47 = .ok (.iload_n 2, 1) := by decide +kernel
theorem dX8_behind_48 : decode cX8_behind 48 = .ok (.ifCond .ne 20, 3) := by decide +kernel
theorem dX8_behind_51 : decode cX8_behind 51 = .ok (.aload_n 0, 1) := by decide +kernel
theorem dX8_behind_52 : decode cX8_behind 52 = .ok (.getfield 16, 3) := by decide +kernel
theorem dX8_behind_55 : decode cX8_behind 55 = .ok (.iload_n 1, 1) := by decide +kernel
theorem dX8_behind_56 : decode cX8_behind 56 = .ok (.invokevirtual 87, 3) := by decide +kernel
theorem dX8_behind_59 : decode cX8_behind 59 = .ok (.ifCond .eq 7, 3) := by decide +kernel
theorem dX8_behind_62 : decode cX8_behind 62 = .ok (.iconst 1, 1) := by decide +kernel
theorem dX8_behind_63 : decode cX8_behind 63 = .ok (.goto 4, 3) := by decide +kernel
theorem dX8_behind_66 : decode cX8_behind 66 = .ok (.iconst 0, 1) := by decide +kernel
theorem dX8_behind_67 : decode cX8_behind 67 = .ok (.ireturn, 1) := by decide +kernel
theorem dX8_behind_68 : decode cX8_behind 68 = .ok (.aload_n 0, 1) := by decide +kernel
theorem dX8_behind_69 : decode cX8_behind 69 = .ok (.getfield 16, 3) := by decide +kernel
theorem dX8_behind_72 : decode cX8_behind 72 = .ok (.iload_n 1, 1) := by decide +kernel
theorem dX8_behind_73 : decode cX8_behind 73 = .ok (.invokevirtual 87, 3) := by decide +kernel
theorem dX8_behind_76 : decode cX8_behind 76 = .ok (.ifCond .ne 6, 3) := by decide +kernel
theorem dX8_behind_79 : decode cX8_behind 79 = .ok (.bipush (-6), 2) := by decide +kernel
theorem dX8_behind_81 : decode cX8_behind 81 = .ok (.ireturn, 1) := by decide +kernel
theorem dX8_behind_82 : decode cX8_behind 82 = .ok (.iload_n 2, 1) := by decide +kernel
theorem dX8_behind_83 : decode cX8_behind 83 = .ok (.iconst 1, 1) := by decide +kernel
theorem dX8_behind_84 : decode cX8_behind 84 = .ok (.if_icmp .ne 15, 3) := by decide +kernel
theorem dX8_behind_87 : decode cX8_behind 87 = .ok (.aload_n 0, 1) := by decide +kernel
theorem dX8_behind_88 : decode cX8_behind 88 = .ok (.getfield 16, 3) := by decide +kernel
theorem dX8_behind_91 : decode cX8_behind 91 = .ok (.getfield 130, 3) := by decide +kernel
theorem dX8_behind_94 : decode cX8_behind 94 = .ok (.iload_n 1, 1) := by decide +kernel
theorem dX8_behind_95 : decode cX8_behind 95 = .ok (.iaload, 1) := by decide +kernel
theorem dX8_behind_96 : decode cX8_behind 96 = .ok (.goto 12, 3) := by decide +kernel
theorem dX8_behind_99 : decode cX8_behind 99 = .ok (.aload_n 0, 1) := by decide +kernel
theorem dX8_behind_100 : decode cX8_behind 100 = .ok (.getfield 16, 3) := by decide +kernel
theorem dX8_behind_103 : decode cX8_behind 103 = .ok (.getfield 133, 3) := by decide +kernel
theorem dX8_behind_106 : decode cX8_behind 106 = .ok (.iload_n 1, 1) := by decide +kernel
theorem dX8_behind_107 : decode cX8_behind 107 = .ok (.iaload, 1) := by decide +kernel
theorem dX8_behind_108 : decode cX8_behind 108 = .ok (.ireturn, 1) := by decide +kernel
set_option maxRecDepth 20000 in
theorem ggX8_see_X8_isWithin : GoodIn wsX8_see wsX8_isWithin := goodIn_r _ [8] rfl (by decide +kernel)
set_option maxRecDepth 20000 in
theorem gX8_see_X8_isWithin : GoodIn wsX8_see (va_wsS RX8 75 yX8_isWithin wsX8_isWithin) := goodIn_app (goodIn_r _ [5, 6, 7] rfl (by decide +kernel)) ggX8_see_X8_isWithin
set_option maxRecDepth 20000 in
theorem ggX8_see_X8_tryText : GoodIn wsX8_see wsX8_tryText := goodIn_r _ [12, 13, 1, 14, 15, 16, 17, 18, 19, 20, 21, 22, 23, 24, 25, 26, 27, 28, 29, 30, 31, 32, 33, 34, 6, 7, 8, 35, 36, 37, 38, 39, 40, 41, 42, 43, 44, 45, 46, 47, 48, 49, 50, 51, 52, 53, 54, 55, 56, 57, 58, 59, 60, 61, 62, 63, 64, 65, 66, 67, 68, 69, 70, 71, 72, 73, 74, 75, 76, 77, 78, 79, 80, 81, 82, 83, 84, 85, 86, 87, 88, 89, 90, 91, 92, 93, 94, 95, 96, 97, 98, 99, 100, 101, 102, 103, 104, 105, 106, 107, 108, 109, 110, 111, 112, 113, 114, 115, 116, 117, 118, 119, 120, 121, 122, 123, 124, 125, 126, 127, 128, 129, 130, 131, 132, 133, 134, 139, 140, 141, 142, 143, 144, 145, 146, 147, 148, 155, 156, 157, 158, 159, 160, 161, 162, 149, 150, 151, 152, 153, 154] rfl (by decide +kernel)
set_option maxRecDepth 20000 in
theorem gX8_see_X8_tryText : GoodIn wsX8_see (wsV RX8 118 RX8 yX8_tryText wsX8_tryText) := goodIn_app (goodIn_r _ [9, 10, 11, 7] rfl (by decide +kernel)) ggX8_see_X8_tryText
set_option maxRecDepth 20000 in
theorem ggX8_see_X1_stitchesInAll : GoodIn wsX8_see wsX1_stitchesInAll := goodIn_r _ [138, 48, 52, 89, 7, 90, 95, 96, 97, 98, 99, 100, 101, 149, 150, 151, 152, 153, 154] rfl (by decide +kernel)
set_option maxRecDepth 20000 in
theorem gX8_see_X1_stitchesInAll : GoodIn wsX8_see (wsV RX8 139 RX1 yX1_stitchesInAll wsX1_stitchesInAll) := goodIn_app (goodIn_r _ [135, 136, 137, 46] rfl (by decide +kernel)) ggX8_see_X1_stitchesInAll
theorem dX8_see_0 : decode cX8_see 0 = .ok (.iload_n 1, 1) := by decide +kernel
theorem dX8_see_1 : decode cX8_see 1 = .ok (.iconst 0, 1) := by decide +kernel
theorem dX8_see_2 : decode cX8_see 2 = .ok (.iconst 3, 1) := by decide +kernel
theorem dX8_see_3 : decode cX8_see 3 = .ok (.invokestatic 75, 3) := by decide +kernel
theorem dX8_see_6 : decode cX8_see 6 = .ok (.ifCond .ne 6, 3) := by decide +kernel
theorem dX8_see_9 : decode cX8_see 9 = .ok (.bipush (-2), 2) := by decide +kernel
theorem dX8_see_11 : decode cX8_see 11 = .ok (.ireturn, 1) := by decide +kernel
theorem dX8_see_12 : decode cX8_see 12 = .ok (.aload_n 0, 1) := by decide +kernel
theorem dX8_see_13 : decode cX8_see 13 = .ok (.invokevirtual 118, 3) := by decide +kernel
theorem dX8_see_16 : decode cX8_see 16 = .ok (.istore_n 2, 1) := by decide +kernel
theorem dX8_see_17 : decode cX8_see 17 = .ok (.iload_n 2, 1) := by decide +kernel
theorem dX8_see_18 : decode cX8_see 18 = .ok (.ifCond .eq 5, 3) := by decide +kernel
theorem dX8_see_21 : decode cX8_see 21 = .ok (.iload_n 2, 1) := by decide +kernel
theorem dX8_see_22 : decode cX8_see 22 = .ok (.ireturn, 1) := by decide +kernel
theorem dX8_see_23 : decode cX8_see 23 = .ok (.iload_n 1, 1) := by decide +kernel
theorem dX8_see_24 : decode cX8_see 24 = .ok (.tableswitch 52 0 2 #[28, 36, 44], 28) := by decide +kernel
theorem dX8_see_52 : decode cX8_see 52 = .ok (.aload_n 0, 1) := by decide +kernel
theorem dX8_see_53 : decode cX8_see 53 = .ok (.getfield 16, 3) := by decide +kernel
theorem dX8_see_56 : decode cX8_see 56 = .ok (.getfield 94, 3) := by decide +kernel
theorem dX8_see_59 : decode cX8_see 59 = .ok (.ireturn, 1) := by decide +kernel
theorem dX8_see_60 : decode cX8_see 60 = .ok (.aload_n 0, 1) := by decide +kernel
theorem dX8_see_61 : decode cX8_see 61 = .ok (.getfield 16, 3) := by decide +kernel
theorem dX8_see_64 : decode cX8_see 64 = .ok (.getfield 136, 3) := by decide +kernel
theorem dX8_see_67 : decode cX8_see 67 = .ok (.ireturn, 1) := by decide +kernel
theorem dX8_see_68 : decode cX8_see 68 = .ok (.aload_n 0, 1) := by decide +kernel
theorem dX8_see_69 : decode cX8_see 69 = .ok (.getfield 16, 3) := by decide +kernel
theorem dX8_see_72 : decode cX8_see 72 = .ok (.invokevirtual 139, 3) := by decide +kernel
theorem dX8_see_75 : decode cX8_see 75 = .ok (.ireturn, 1) := by decide +kernel
theorem dX8_see_76 : decode cX8_see 76 = .ok (.aload_n 0, 1) := by decide +kernel
theorem dX8_see_77 : decode cX8_see 77 = .ok (.getfield 16, 3) := by decide +kernel
theorem dX8_see_80 : decode cX8_see 80 = .ok (.getfield 142, 3) := by decide +kernel
theorem dX8_see_83 : decode cX8_see 83 = .ok (.ireturn, 1) := by decide +kernel
set_option maxRecDepth 20000 in
theorem ggX8_swept_X8_isWithin : GoodIn wsX8_swept wsX8_isWithin := goodIn_r _ [7] rfl (by decide +kernel)
set_option maxRecDepth 20000 in
theorem gX8_swept_X8_isWithin : GoodIn wsX8_swept (va_wsS RX8 75 yX8_isWithin wsX8_isWithin) := goodIn_app (goodIn_r _ [4, 5, 6] rfl (by decide +kernel)) ggX8_swept_X8_isWithin
set_option maxRecDepth 20000 in
theorem ggX8_swept_X8_tryText : GoodIn wsX8_swept wsX8_tryText := goodIn_r _ [11, 12, 13, 14, 1, 15, 16, 17, 18, 19, 20, 21, 22, 23, 24, 25, 26, 27, 28, 29, 30, 31, 32, 33, 5, 6, 7, 34, 35, 36, 37, 38, 39, 40, 41, 42, 43, 44, 45, 46, 47, 48, 49, 50, 51, 52, 53, 54, 55, 56, 57, 58, 59, 60, 61, 62, 63, 64, 65, 66, 67, 68, 69, 70, 71, 72, 73, 74, 75, 76, 77, 78, 79, 80, 81, 82, 83, 84, 85, 86, 87, 88, 89, 90, 91, 92, 93, 94, 95, 96, 97, 98, 99, 100, 101, 102, 103, 104, 105, 106, 107, 108, 109, 110, 111, 112, 113, 114, 115, 116, 117, 118, 119, 120, 121, 122, 123, 124, 125, 126, 127, 128, 129, 130, 131, 132, 133, 134, 135, 136, 137, 138, 139, 140, 141, 142, 143, 144, 145, 146, 147, 148, 149, 150, 151, 152, 153, 154, 155, 156, 157] rfl (by decide +kernel)
set_option maxRecDepth 20000 in
theorem gX8_swept_X8_tryText : GoodIn wsX8_swept (wsV RX8 118 RX8 yX8_tryText wsX8_tryText) := goodIn_app (goodIn_r _ [8, 9, 10, 6] rfl (by decide +kernel)) ggX8_swept_X8_tryText
theorem dX8_swept_0 : decode cX8_swept 0 = .ok (.iload_n 1, 1) := by decide +kernel
theorem dX8_swept_1 : decode cX8_swept 1 = .ok (.iconst 0, 1) := by decide +kernel
theorem dX8_swept_2 : decode cX8_swept 2 = .ok (.iconst 1, 1) := by decide +kernel
theorem dX8_swept_3 : decode cX8_swept 3 = .ok (.invokestatic 75, 3) := by decide +kernel
theorem dX8_swept_6 : decode cX8_swept 6 = .ok (.ifCond .ne 6, 3) := by decide +kernel
theorem dX8_swept_9 : decode cX8_swept 9 = .ok (.bipush (-2), 2) := by decide +kernel
theorem dX8_swept_11 : decode cX8_swept 11 = .ok (.ireturn, 1) := by decide +kernel
theorem dX8_swept_12 : decode cX8_swept 12 = .ok (.aload_n 0, 1) := by decide +kernel
theorem dX8_swept_13 : decode cX8_swept 13 = .ok (.invokevirtual 118, 3) := by decide +kernel
theorem dX8_swept_16 : decode cX8_swept 16 = .ok (.istore_n 2, 1) := by decide +kernel
theorem dX8_swept_17 : decode cX8_swept 17 = .ok (.iload_n 2, 1) := by decide +kernel
theorem dX8_swept_18 : decode cX8_swept 18 = .ok (.ifCond .eq 5, 3) := by decide +kernel
theorem dX8_swept_21 : decode cX8_swept 21 = .ok (.iload_n 2, 1) := by decide +kernel
theorem dX8_swept_22 : decode cX8_swept 22 = .ok (.ireturn, 1) := by decide +kernel
theorem dX8_swept_23 : decode cX8_swept 23 = .ok (.iload_n 1, 1) := by decide +kernel
theorem dX8_swept_24 : decode cX8_swept 24 = .ok (.ifCond .ne 13, 3) := by decide +kernel
theorem dX8_swept_27 : decode cX8_swept 27 = .ok (.aload_n 0, 1) := by decide +kernel
theorem dX8_swept_28 : decode cX8_swept 28 = .ok (.getfield 29, 3) := by decide +kernel
theorem dX8_swept_31 : decode cX8_swept 31 = .ok (.getfield 145, 3) := by decide +kernel
theorem dX8_swept_34 : decode cX8_swept 34 = .ok (.goto 10, 3) := by decide +kernel
theorem dX8_swept_37 : decode cX8_swept 37 = .ok (.aload_n 0, 1) := by decide +kernel
theorem dX8_swept_38 : decode cX8_swept 38 = .ok (.getfield 29, 3) := by decide +kernel
theorem dX8_swept_41 : decode cX8_swept 41 = .ok (.getfield 148, 3) := by decide +kernel
theorem dX8_swept_44 : decode cX8_swept 44 = .ok (.ireturn, 1) := by decide +kernel
set_option maxRecDepth 20000 in
theorem ggX8_done_X8_tryText : GoodIn wsX8_done wsX8_tryText := goodIn_r _ [10, 3, 2, 1, 4, 11, 12, 13, 14, 15, 16, 17, 18, 19, 20, 21, 22, 23, 24, 25, 26, 27, 28, 29, 30, 9, 31, 32, 33, 34, 35, 36, 37, 38, 39, 40, 41, 42, 43, 44, 45, 46, 47, 48, 49, 50, 51, 52, 53, 54, 55, 56, 57, 58, 59, 60, 61, 62, 63, 64, 65, 66, 67, 68, 69, 70, 71, 72, 73, 74, 75, 76, 77, 78, 79, 80, 81, 82, 83, 84, 85, 86, 87, 88, 89, 90, 91, 92, 93, 94, 95, 96, 97, 98, 99, 100, 101, 102, 103, 104, 105, 106, 107, 108, 109, 110, 111, 112, 113, 114, 115, 116, 117, 118, 119, 120, 121, 122, 123, 124, 125, 126, 127, 128, 129, 130, 131, 136, 137, 138, 139, 140, 141, 142, 143, 144, 145, 146, 147, 148, 149, 150, 151, 152, 153, 154, 155, 156, 157, 158, 159] rfl (by decide +kernel)
set_option maxRecDepth 20000 in
theorem gX8_done_X8_tryText : GoodIn wsX8_done (wsV RX8 118 RX8 yX8_tryText wsX8_tryText) := goodIn_app (goodIn_r _ [6, 7, 8, 9] rfl (by decide +kernel)) ggX8_done_X8_tryText
set_option maxRecDepth 20000 in
theorem ggX8_done_X1_copyFrom : GoodIn wsX8_done wsX1_copyFrom := goodIn_r _ [44, 45, 46, 47, 48, 49, 50, 154, 155, 156, 157, 158, 159] rfl (by decide +kernel)
set_option maxRecDepth 20000 in
theorem gX8_done_X1_copyFrom : GoodIn wsX8_done (wsV RX8 151 RX1 yX1_copyFrom wsX1_copyFrom) := goodIn_app (goodIn_r _ [40, 41, 42, 43] rfl (by decide +kernel)) ggX8_done_X1_copyFrom
set_option maxRecDepth 20000 in
theorem ggX8_done_X3_clear : GoodIn wsX8_done wsX3_clear := goodIn_r _ [135, 17, 152, 153] rfl (by decide +kernel)
set_option maxRecDepth 20000 in
theorem gX8_done_X3_clear : GoodIn wsX8_done (wsV RX8 112 RX3 yX3_clear wsX3_clear) := goodIn_app (goodIn_r _ [132, 133, 134, 15] rfl (by decide +kernel)) ggX8_done_X3_clear
theorem dX8_done_0 : decode cX8_done 0 = .ok (.aload_n 0, 1) := by decide +kernel
theorem dX8_done_1 : decode cX8_done 1 = .ok (.invokevirtual 118, 3) := by decide +kernel
theorem dX8_done_4 : decode cX8_done 4 = .ok (.istore_n 1, 1) := by decide +kernel
theorem dX8_done_5 : decode cX8_done 5 = .ok (.iload_n 1, 1) := by decide +kernel
theorem dX8_done_6 : decode cX8_done 6 = .ok (.ifCond .eq 5, 3) := by decide +kernel
theorem dX8_done_9 : decode cX8_done 9 = .ok (.iload_n 1, 1) := by decide +kernel
theorem dX8_done_10 : decode cX8_done 10 = .ok (.ireturn, 1) := by decide +kernel
theorem dX8_done_11 : decode cX8_done 11 = .ok (.aload_n 0, 1) := by decide +kernel
theorem dX8_done_12 : decode cX8_done 12 = .ok (.getfield 10, 3) := by decide +kernel
theorem dX8_done_15 : decode cX8_done 15 = .ok (.aload_n 0, 1) := by decide +kernel
theorem dX8_done_16 : decode cX8_done 16 = .ok (.getfield 16, 3) := by decide +kernel
theorem dX8_done_19 : decode cX8_done 19 = .ok (.invokevirtual 151, 3) := by decide +kernel
theorem dX8_done_22 : decode cX8_done 22 = .ok (.aload_n 0, 1) := by decide +kernel
theorem dX8_done_23 : decode cX8_done 23 = .ok (.getfield 22, 3) := by decide +kernel
theorem dX8_done_26 : decode cX8_done 26 = .ok (.invokevirtual 112, 3) := by decide +kernel
theorem dX8_done_29 : decode cX8_done 29 = .ok (.aload_n 0, 1) := by decide +kernel
theorem dX8_done_30 : decode cX8_done 30 = .ok (.getfield 29, 3) := by decide +kernel
theorem dX8_done_33 : decode cX8_done 33 = .ok (.getfield 155, 3) := by decide +kernel
theorem dX8_done_36 : decode cX8_done 36 = .ok (.ireturn, 1) := by decide +kernel
set_option maxRecDepth 20000 in
theorem ggX8_borders_X1_bordersInPlaces : GoodIn wsX8_borders wsX1_bordersInPlaces := goodIn_r _ [6, 7, 8, 9, 10, 5, 11, 12, 13, 14, 15, 16, 17, 18, 19, 20, 21, 22, 23, 34, 35, 36, 37, 38, 39] rfl (by decide +kernel)
set_option maxRecDepth 20000 in
theorem gX8_borders_X1_bordersInPlaces : GoodIn wsX8_borders (wsV RX8 158 RX1 yX1_bordersInPlaces wsX1_bordersInPlaces) := goodIn_app (goodIn_r _ [2, 3, 4, 5] rfl (by decide +kernel)) ggX8_borders_X1_bordersInPlaces
theorem dX8_borders_0 : decode cX8_borders 0 = .ok (.aload_n 0, 1) := by decide +kernel
theorem dX8_borders_1 : decode cX8_borders 1 = .ok (.getfield 10, 3) := by decide +kernel
theorem dX8_borders_4 : decode cX8_borders 4 = .ok (.invokevirtual 158, 3) := by decide +kernel
theorem dX8_borders_7 : decode cX8_borders 7 = .ok (.ireturn, 1) := by decide +kernel
set_option maxRecDepth 20000 in
theorem ggX8_row_X8_isWithin : GoodIn wsX8_row wsX8_isWithin := goodIn_r _ [8] rfl (by decide +kernel)
set_option maxRecDepth 20000 in
theorem gX8_row_X8_isWithin : GoodIn wsX8_row (va_wsS RX8 75 yX8_isWithin wsX8_isWithin) := goodIn_app (goodIn_r _ [5, 6, 7] rfl (by decide +kernel)) ggX8_row_X8_isWithin
set_option maxRecDepth 20000 in
theorem ggX8_row_X0_rank : GoodIn wsX8_row wsX0_rank := goodIn_r _ [13, 14, 15, 16, 17, 18, 19, 20, 12, 21, 22, 23, 24, 25, 26, 27, 28, 29, 30, 31, 32, 33, 34, 35, 7, 36, 37, 38, 39, 40, 41, 42, 43, 44, 62, 63, 64, 65, 66, 67, 55, 56, 57, 58, 59, 60, 61] rfl (by decide +kernel)
set_option maxRecDepth 20000 in
theorem gX8_row_X0_rank : GoodIn wsX8_row (wsV RX8 161 RX0 yX0_rank wsX0_rank) := goodIn_app (goodIn_r _ [9, 10, 11, 12] rfl (by decide +kernel)) ggX8_row_X0_rank
theorem dX8_row_0 : decode cX8_row 0 = .ok (.iload_n 1, 1) := by decide +kernel
theorem dX8_row_1 : decode cX8_row 1 = .ok (.iconst 0, 1) := by decide +kernel
theorem dX8_row_2 : decode cX8_row 2 = .ok (.iconst 1, 1) := by decide +kernel
theorem dX8_row_3 : decode cX8_row 3 = .ok (.invokestatic 75, 3) := by decide +kernel
theorem dX8_row_6 : decode cX8_row 6 = .ok (.ifCond .ne 6, 3) := by decide +kernel
theorem dX8_row_9 : decode cX8_row 9 = .ok (.bipush (-2), 2) := by decide +kernel
theorem dX8_row_11 : decode cX8_row 11 = .ok (.ireturn, 1) := by decide +kernel
theorem dX8_row_12 : decode cX8_row 12 = .ok (.aload_n 0, 1) := by decide +kernel
theorem dX8_row_13 : decode cX8_row 13 = .ok (.getfield 36, 3) := by decide +kernel
theorem dX8_row_16 : decode cX8_row 16 = .ok (.aload_n 0, 1) := by decide +kernel
theorem dX8_row_17 : decode cX8_row 17 = .ok (.getfield 10, 3) := by decide +kernel
theorem dX8_row_20 : decode cX8_row 20 = .ok (.invokevirtual 161, 3) := by decide +kernel
theorem dX8_row_23 : decode cX8_row 23 = .ok (.iload_n 1, 1) := by decide +kernel
theorem dX8_row_24 : decode cX8_row 24 = .ok (.ifCond .ne 13, 3) := by decide +kernel
theorem dX8_row_27 : decode cX8_row 27 = .ok (.aload_n 0, 1) := by decide +kernel
theorem dX8_row_28 : decode cX8_row 28 = .ok (.getfield 36, 3) := by decide +kernel
theorem dX8_row_31 : decode cX8_row 31 = .ok (.getfield 164, 3) := by decide +kernel
theorem dX8_row_34 : decode cX8_row 34 = .ok (.goto 10, 3) := by decide +kernel
theorem dX8_row_37 : decode cX8_row 37 = .ok (.aload_n 0, 1) := by decide +kernel
theorem dX8_row_38 : decode cX8_row 38 = .ok (.getfield 36, 3) := by decide +kernel
theorem dX8_row_41 : decode cX8_row 41 = .ok (.getfield 167, 3) := by decide +kernel
theorem dX8_row_44 : decode cX8_row 44 = .ok (.ireturn, 1) := by decide +kernel
set_option maxRecDepth 20000 in
theorem ggX8_most_X8_isWithin : GoodIn wsX8_most wsX8_isWithin := goodIn_r _ [6] rfl (by decide +kernel)
set_option maxRecDepth 20000 in
theorem gX8_most_X8_isWithin : GoodIn wsX8_most (va_wsS RX8 75 yX8_isWithin wsX8_isWithin) := goodIn_app (goodIn_r _ [3, 4, 5] rfl (by decide +kernel)) ggX8_most_X8_isWithin
set_option maxRecDepth 20000 in
theorem ggX8_most_X0_mostParishes : GoodIn wsX8_most wsX0_mostParishes := goodIn_r _ [11, 12, 13, 14, 5, 15, 16, 17, 18, 10, 19, 20, 21, 22, 23, 24, 25, 26, 27, 28, 29, 30, 31, 32, 33, 51, 52, 53, 54, 55, 56, 57, 58, 59, 60, 61, 62, 63] rfl (by decide +kernel)
set_option maxRecDepth 20000 in
theorem gX8_most_X0_mostParishes : GoodIn wsX8_most (wsV RX8 170 RX0 yX0_mostParishes wsX0_mostParishes) := goodIn_app (goodIn_r _ [7, 8, 9, 10] rfl (by decide +kernel)) ggX8_most_X0_mostParishes
set_option maxRecDepth 20000 in
theorem ggX8_most_X1_howManyHaveSome : GoodIn wsX8_most wsX1_howManyHaveSome := goodIn_r _ [38, 39, 40, 14, 5, 15, 51, 52, 53, 54, 55, 56] rfl (by decide +kernel)
set_option maxRecDepth 20000 in
theorem gX8_most_X1_howManyHaveSome : GoodIn wsX8_most (wsV RX8 174 RX1 yX1_howManyHaveSome wsX1_howManyHaveSome) := goodIn_app (goodIn_r _ [34, 35, 36, 37] rfl (by decide +kernel)) ggX8_most_X1_howManyHaveSome
theorem dX8_most_0 : decode cX8_most 0 = .ok (.iload_n 1, 1) := by decide +kernel
theorem dX8_most_1 : decode cX8_most 1 = .ok (.iconst 1, 1) := by decide +kernel
theorem dX8_most_2 : decode cX8_most 2 = .ok (.sipush 255, 3) := by decide +kernel
theorem dX8_most_5 : decode cX8_most 5 = .ok (.invokestatic 75, 3) := by decide +kernel
theorem dX8_most_8 : decode cX8_most 8 = .ok (.ifCond .eq 12, 3) := by decide +kernel
theorem dX8_most_11 : decode cX8_most 11 = .ok (.iload_n 2, 1) := by decide +kernel
theorem dX8_most_12 : decode cX8_most 12 = .ok (.iconst 0, 1) := by decide +kernel
theorem dX8_most_13 : decode cX8_most 13 = .ok (.iconst 1, 1) := by decide +kernel
theorem dX8_most_14 : decode cX8_most 14 = .ok (.invokestatic 75, 3) := by decide +kernel
theorem dX8_most_17 : decode cX8_most 17 = .ok (.ifCond .ne 6, 3) := by decide +kernel
theorem dX8_most_20 : decode cX8_most 20 = .ok (.bipush (-2), 2) := by decide +kernel
theorem dX8_most_22 : decode cX8_most 22 = .ok (.ireturn, 1) := by decide +kernel
theorem dX8_most_23 : decode cX8_most 23 = .ok (.iload_n 2, 1) := by decide +kernel
theorem dX8_most_24 : decode cX8_most 24 = .ok (.ifCond .ne 18, 3) := by decide +kernel
theorem dX8_most_27 : decode cX8_most 27 = .ok (.aload_n 0, 1) := by decide +kernel
theorem dX8_most_28 : decode cX8_most 28 = .ok (.getfield 36, 3) := by decide +kernel
theorem dX8_most_31 : decode cX8_most 31 = .ok (.aload_n 0, 1) := by decide +kernel
theorem dX8_most_32 : decode cX8_most 32 = .ok (.getfield 10, 3) := by decide +kernel
theorem dX8_most_35 : decode cX8_most 35 = .ok (.iload_n 1, 1) := by decide +kernel
theorem dX8_most_36 : decode cX8_most 36 = .ok (.invokevirtual 170, 3) := by decide +kernel
theorem dX8_most_39 : decode cX8_most 39 = .ok (.goto 11, 3) := by decide +kernel
theorem dX8_most_42 : decode cX8_most 42 = .ok (.aload_n 0, 1) := by decide +kernel
theorem dX8_most_43 : decode cX8_most 43 = .ok (.getfield 10, 3) := by decide +kernel
theorem dX8_most_46 : decode cX8_most 46 = .ok (.iload_n 1, 1) := by decide +kernel
theorem dX8_most_47 : decode cX8_most 47 = .ok (.invokevirtual 174, 3) := by decide +kernel
theorem dX8_most_50 : decode cX8_most 50 = .ok (.ireturn, 1) := by decide +kernel
set_option maxRecDepth 20000 in
theorem ggX8_pile_X8_isWithin : GoodIn wsX8_pile wsX8_isWithin := goodIn_r _ [6] rfl (by decide +kernel)
set_option maxRecDepth 20000 in
theorem gX8_pile_X8_isWithin : GoodIn wsX8_pile (va_wsS RX8 75 yX8_isWithin wsX8_isWithin) := goodIn_app (goodIn_r _ [3, 4, 5] rfl (by decide +kernel)) ggX8_pile_X8_isWithin
set_option maxRecDepth 20000 in
theorem ggX8_pile_X0_highestPile : GoodIn wsX8_pile wsX0_highestPile := goodIn_r _ [11, 12, 13, 14, 15, 16, 10, 17, 18, 19, 20, 5, 21, 22, 23, 24, 25, 26, 27, 28, 40, 41, 42, 43, 44, 45, 46, 47, 48, 49, 50, 51, 52] rfl (by decide +kernel)
set_option maxRecDepth 20000 in
theorem gX8_pile_X0_highestPile : GoodIn wsX8_pile (wsV RX8 178 RX0 yX0_highestPile wsX0_highestPile) := goodIn_app (goodIn_r _ [7, 8, 9, 10] rfl (by decide +kernel)) ggX8_pile_X0_highestPile
set_option maxRecDepth 20000 in
theorem ggX8_pile_J6_bitCount_0f7a4 : GoodIn wsX8_pile wsJ6_bitCount_0f7a4 := goodIn_r _ [25, 26, 27, 28] rfl (by decide +kernel)
set_option maxRecDepth 20000 in
theorem gX8_pile_J6_bitCount_0f7a4 : GoodIn wsX8_pile (va_wsS RX8 182 yJ6_bitCount_0f7a4 wsJ6_bitCount_0f7a4) := goodIn_app (goodIn_r _ [29, 23, 24] rfl (by decide +kernel)) ggX8_pile_J6_bitCount_0f7a4
theorem dX8_pile_0 : decode cX8_pile 0 = .ok (.iload_n 1, 1) := by decide +kernel
theorem dX8_pile_1 : decode cX8_pile 1 = .ok (.iconst 0, 1) := by decide +kernel
theorem dX8_pile_2 : decode cX8_pile 2 = .ok (.iconst 1, 1) := by decide +kernel
theorem dX8_pile_3 : decode cX8_pile 3 = .ok (.invokestatic 75, 3) := by decide +kernel
theorem dX8_pile_6 : decode cX8_pile 6 = .ok (.ifCond .ne 6, 3) := by decide +kernel
theorem dX8_pile_9 : decode cX8_pile 9 = .ok (.bipush (-2), 2) := by decide +kernel
theorem dX8_pile_11 : decode cX8_pile 11 = .ok (.ireturn, 1) := by decide +kernel
theorem dX8_pile_12 : decode cX8_pile 12 = .ok (.aload_n 0, 1) := by decide +kernel
theorem dX8_pile_13 : decode cX8_pile 13 = .ok (.getfield 36, 3) := by decide +kernel
theorem dX8_pile_16 : decode cX8_pile 16 = .ok (.aload_n 0, 1) := by decide +kernel
theorem dX8_pile_17 : decode cX8_pile 17 = .ok (.getfield 10, 3) := by decide +kernel
theorem dX8_pile_20 : decode cX8_pile 20 = .ok (.invokevirtual 178, 3) := by decide +kernel
theorem dX8_pile_23 : decode cX8_pile 23 = .ok (.istore_n 2, 1) := by decide +kernel
theorem dX8_pile_24 : decode cX8_pile 24 = .ok (.iload_n 1, 1) := by decide +kernel
theorem dX8_pile_25 : decode cX8_pile 25 = .ok (.ifCond .ne 10, 3) := by decide +kernel
theorem dX8_pile_28 : decode cX8_pile 28 = .ok (.iload_n 2, 1) := by decide +kernel
theorem dX8_pile_29 : decode cX8_pile 29 = .ok (.invokestatic 182, 3) := by decide +kernel
theorem dX8_pile_32 : decode cX8_pile 32 = .ok (.goto 4, 3) := by decide +kernel
theorem dX8_pile_35 : decode cX8_pile 35 = .ok (.iload_n 2, 1) := by decide +kernel
theorem dX8_pile_36 : decode cX8_pile 36 = .ok (.ireturn, 1) := by decide +kernel
set_option maxRecDepth 20000 in
theorem ggX8_felt_X8_isWithin : GoodIn wsX8_felt wsX8_isWithin := goodIn_r _ [6] rfl (by decide +kernel)
set_option maxRecDepth 20000 in
theorem gX8_felt_X8_isWithin : GoodIn wsX8_felt (va_wsS RX8 75 yX8_isWithin wsX8_isWithin) := goodIn_app (goodIn_r _ [3, 4, 5] rfl (by decide +kernel)) ggX8_felt_X8_isWithin
set_option maxRecDepth 20000 in
theorem ggX8_felt_X4_add : GoodIn wsX8_felt wsX4_add := goodIn_r _ [11, 12, 13, 14, 25, 26, 27] rfl (by decide +kernel)
set_option maxRecDepth 20000 in
theorem gX8_felt_X4_add : GoodIn wsX8_felt (wsV RX8 187 RX4 yX4_add wsX4_add) := goodIn_app (goodIn_r _ [7, 8, 9, 10] rfl (by decide +kernel)) ggX8_felt_X4_add
theorem dX8_felt_0 : decode cX8_felt 0 = .ok (.iload_n 1, 1) := by decide +kernel
theorem dX8_felt_1 : decode cX8_felt 1 = .ok (.iconst 0, 1) := by decide +kernel
theorem dX8_felt_2 : decode cX8_felt 2 = .ok (.bipush 60, 2) := by decide +kernel
theorem dX8_felt_4 : decode cX8_felt 4 = .ok (.invokestatic 75, 3) := by decide +kernel
theorem dX8_felt_7 : decode cX8_felt 7 = .ok (.ifCond .eq 13, 3) := by decide +kernel
theorem dX8_felt_10 : decode cX8_felt 10 = .ok (.iload_n 2, 1) := by decide +kernel
theorem dX8_felt_11 : decode cX8_felt 11 = .ok (.iconst 0, 1) := by decide +kernel
theorem dX8_felt_12 : decode cX8_felt 12 = .ok (.bipush 99, 2) := by decide +kernel
theorem dX8_felt_14 : decode cX8_felt 14 = .ok (.invokestatic 75, 3) := by decide +kernel
theorem dX8_felt_17 : decode cX8_felt 17 = .ok (.ifCond .ne 6, 3) := by decide +kernel
theorem dX8_felt_20 : decode cX8_felt 20 = .ok (.bipush (-2), 2) := by decide +kernel
theorem dX8_felt_22 : decode cX8_felt 22 = .ok (.ireturn, 1) := by decide +kernel
theorem dX8_felt_23 : decode cX8_felt 23 = .ok (.aload_n 0, 1) := by decide +kernel
theorem dX8_felt_24 : decode cX8_felt 24 = .ok (.getfield 50, 3) := by decide +kernel
theorem dX8_felt_27 : decode cX8_felt 27 = .ok (.iload_n 1, 1) := by decide +kernel
theorem dX8_felt_28 : decode cX8_felt 28 = .ok (.iload_n 2, 1) := by decide +kernel
theorem dX8_felt_29 : decode cX8_felt 29 = .ok (.invokevirtual 187, 3) := by decide +kernel
theorem dX8_felt_32 : decode cX8_felt 32 = .ok (.ifCond .eq 13, 3) := by decide +kernel
theorem dX8_felt_35 : decode cX8_felt 35 = .ok (.aload_n 0, 1) := by decide +kernel
theorem dX8_felt_36 : decode cX8_felt 36 = .ok (.getfield 50, 3) := by decide +kernel
theorem dX8_felt_39 : decode cX8_felt 39 = .ok (.getfield 191, 3) := by decide +kernel
