theorem dX5_alter_31 : decode cX5_alter 31 = .ok (.iaload, 1) := by decide +kernel
theorem dX5_alter_32 : decode cX5_alter 32 = .ok (.istore_n 3, 1) := by decide +kernel
theorem dX5_alter_33 : decode cX5_alter 33 = .ok (.aload_n 0, 1) := by decide +kernel
theorem dX5_alter_34 : decode cX5_alter 34 = .ok (.getfield 13, 3) := by decide +kernel
theorem dX5_alter_37 : decode cX5_alter 37 = .ok (.iload_n 1, 1) := by decide +kernel
theorem dX5_alter_38 : decode cX5_alter 38 = .ok (.iload_n 2, 1) := by decide +kernel
theorem dX5_alter_39 : decode cX5_alter 39 = .ok (.iastore, 1) := by decide +kernel
theorem dX5_alter_40 : decode cX5_alter 40 = .ok (.iload_n 3, 1) := by decide +kernel
theorem dX5_alter_41 : decode cX5_alter 41 = .ok (.i2l, 1) := by decide +kernel
theorem dX5_alter_42 : decode cX5_alter 42 = .ok (.lreturn, 1) := by decide +kernel
set_option maxRecDepth 20000 in
theorem ggX5_has_X5_isThere : GoodIn wsX5_has wsX5_isThere := goodIn_r _ [7, 8, 9, 6, 10, 11, 12, 13, 14, 15, 16, 17, 18, 19, 20, 21, 22, 23, 24, 25, 26, 27, 28, 29, 30, 31, 32, 33, 34, 35, 36, 37, 38, 39, 40, 41, 42] (by decide +kernel) (by decide +kernel)
set_option maxRecDepth 20000 in
theorem gX5_has_X5_isThere : GoodIn wsX5_has (wsV RX5 107 RX5 yX5_isThere wsX5_isThere) := goodIn_app (goodIn_of _ (by decide +kernel)) ggX5_has_X5_isThere
theorem dX5_has_0 : decode cX5_has 0 = .ok (.aload_n 0, 1) := by decide +kernel
theorem dX5_has_1 : decode cX5_has 1 = .ok (.iload_n 1, 1) := by decide +kernel
theorem dX5_has_2 : decode cX5_has 2 = .ok (.invokevirtual 107, 3) := by decide +kernel
theorem dX5_has_5 : decode cX5_has 5 = .ok (.ifCond .eq 13, 3) := by decide +kernel
theorem dX5_has_8 : decode cX5_has 8 = .ok (.aload_n 0, 1) := by decide +kernel
theorem dX5_has_9 : decode cX5_has 9 = .ok (.getfield 13, 3) := by decide +kernel
theorem dX5_has_12 : decode cX5_has 12 = .ok (.iload_n 1, 1) := by decide +kernel
theorem dX5_has_13 : decode cX5_has 13 = .ok (.iaload, 1) := by decide +kernel
theorem dX5_has_14 : decode cX5_has 14 = .ok (.i2l, 1) := by decide +kernel
theorem dX5_has_15 : decode cX5_has 15 = .ok (.goto 6, 3) := by decide +kernel
theorem dX5_has_18 : decode cX5_has 18 = .ok (.ldc2_w 116, 3) := by decide +kernel
theorem dX5_has_21 : decode cX5_has 21 = .ok (.lreturn, 1) := by decide +kernel
set_option maxRecDepth 20000 in
theorem ggX5_start_X5_isPlace : GoodIn wsX5_start wsX5_isPlace := goodIn_r _ [8, 9, 10, 11, 7, 12, 13, 14, 15, 16, 17, 18, 19, 20, 21, 22, 23, 24, 25, 26, 27, 28, 29, 30, 31, 32, 33, 34, 35, 36, 37, 38, 39] (by decide +kernel) (by decide +kernel)
set_option maxRecDepth 20000 in
theorem gX5_start_X5_isPlace : GoodIn wsX5_start (wsV RX5 113 RX5 yX5_isPlace wsX5_isPlace) := goodIn_app (goodIn_of _ (by decide +kernel)) ggX5_start_X5_isPlace
set_option maxRecDepth 20000 in
theorem ggX5_start_X5_within : GoodIn wsX5_start wsX5_within := goodIn_r _ [12] (by decide +kernel) (by decide +kernel)
set_option maxRecDepth 20000 in
theorem gX5_start_X5_within : GoodIn wsX5_start (va_wsS RX5 57 yX5_within wsX5_within) := goodIn_app (goodIn_of _ (by decide +kernel)) ggX5_start_X5_within
theorem dX5_start_0 : decode cX5_start 0 = .ok (.aload_n 0, 1) := by decide +kernel
theorem dX5_start_1 : decode cX5_start 1 = .ok (.iload_n 1, 1) := by decide +kernel
theorem dX5_start_2 : decode cX5_start 2 = .ok (.invokevirtual 113, 3) := by decide +kernel
theorem dX5_start_5 : decode cX5_start 5 = .ok (.ifCond .ne 7, 3) := by decide +kernel
theorem dX5_start_8 : decode cX5_start 8 = .ok (.ldc2_w 116, 3) := by decide +kernel
theorem dX5_start_11 : decode cX5_start 11 = .ok (.lreturn, 1) := by decide +kernel
theorem dX5_start_12 : decode cX5_start 12 = .ok (.iload_n 2, 1) := by decide +kernel
theorem dX5_start_13 : decode cX5_start 13 = .ok (.bipush (-20), 2) := by decide +kernel
theorem dX5_start_15 : decode cX5_start 15 = .ok (.bipush 20, 2) := by decide +kernel
theorem dX5_start_17 : decode cX5_start 17 = .ok (.invokestatic 57, 3) := by decide +kernel
theorem dX5_start_20 : decode cX5_start 20 = .ok (.ifCond .ne 7, 3) := by decide +kernel
theorem dX5_start_23 : decode cX5_start 23 = .ok (.ldc2_w 61, 3) := by decide +kernel
theorem dX5_start_26 : decode cX5_start 26 = .ok (.lreturn, 1) := by decide +kernel
theorem dX5_start_27 : decode cX5_start 27 = .ok (.aload_n 0, 1) := by decide +kernel
theorem dX5_start_28 : decode cX5_start 28 = .ok (.getfield 16, 3) := by decide +kernel
theorem dX5_start_31 : decode cX5_start 31 = .ok (.iload_n 1, 1) := by decide +kernel
theorem dX5_start_32 : decode cX5_start 32 = .ok (.laload, 1) := by decide +kernel
theorem dX5_start_33 : decode cX5_start 33 = .ok (.lstore_n 3, 1) := by decide +kernel
theorem dX5_start_34 : decode cX5_start 34 = .ok (.aload_n 0, 1) := by decide +kernel
theorem dX5_start_35 : decode cX5_start 35 = .ok (.getfield 16, 3) := by decide +kernel
theorem dX5_start_38 : decode cX5_start 38 = .ok (.iload_n 1, 1) := by decide +kernel
theorem dX5_start_39 : decode cX5_start 39 = .ok (.iload_n 2, 1) := by decide +kernel
theorem dX5_start_40 : decode cX5_start 40 = .ok (.i2l, 1) := by decide +kernel
theorem dX5_start_41 : decode cX5_start 41 = .ok (.lastore, 1) := by decide +kernel
theorem dX5_start_42 : decode cX5_start 42 = .ok (.lload_n 3, 1) := by decide +kernel
theorem dX5_start_43 : decode cX5_start 43 = .ok (.lreturn, 1) := by decide +kernel
set_option maxRecDepth 20000 in
theorem ggX5_limit_X5_within : GoodIn wsX5_limit wsX5_within := goodIn_r _ [6] (by decide +kernel) (by decide +kernel)
set_option maxRecDepth 20000 in
theorem gX5_limit_X5_within : GoodIn wsX5_limit (va_wsS RX5 57 yX5_within wsX5_within) := goodIn_app (goodIn_of _ (by decide +kernel)) ggX5_limit_X5_within
theorem dX5_limit_0 : decode cX5_limit 0 = .ok (.iload_n 1, 1) := by decide +kernel
theorem dX5_limit_1 : decode cX5_limit 1 = .ok (.iconst 1, 1) := by decide +kernel
theorem dX5_limit_2 : decode cX5_limit 2 = .ok (.iconst 5, 1) := by decide +kernel
theorem dX5_limit_3 : decode cX5_limit 3 = .ok (.invokestatic 57, 3) := by decide +kernel
theorem dX5_limit_6 : decode cX5_limit 6 = .ok (.ifCond .ne 7, 3) := by decide +kernel
theorem dX5_limit_9 : decode cX5_limit 9 = .ok (.ldc2_w 61, 3) := by decide +kernel
theorem dX5_limit_12 : decode cX5_limit 12 = .ok (.lreturn, 1) := by decide +kernel
theorem dX5_limit_13 : decode cX5_limit 13 = .ok (.aload_n 0, 1) := by decide +kernel
theorem dX5_limit_14 : decode cX5_limit 14 = .ok (.getfield 20, 3) := by decide +kernel
theorem dX5_limit_17 : decode cX5_limit 17 = .ok (.istore_n 2, 1) := by decide +kernel
theorem dX5_limit_18 : decode cX5_limit 18 = .ok (.aload_n 0, 1) := by decide +kernel
theorem dX5_limit_19 : decode cX5_limit 19 = .ok (.iload_n 1, 1) := by decide +kernel
theorem dX5_limit_20 : decode cX5_limit 20 = .ok (.putfield 20, 3) := by decide +kernel
theorem dX5_limit_23 : decode cX5_limit 23 = .ok (.iload_n 2, 1) := by decide +kernel
theorem dX5_limit_24 : decode cX5_limit 24 = .ok (.i2l, 1) := by decide +kernel
theorem dX5_limit_25 : decode cX5_limit 25 = .ok (.lreturn, 1) := by decide +kernel
theorem dX5_goOn_0 : decode cX5_goOn 0 = .ok (.iconst 0, 1) := by decide +kernel
theorem dX5_goOn_1 : decode cX5_goOn 1 = .ok (.istore 4, 2) := by decide +kernel
theorem dX5_goOn_3 : decode cX5_goOn 3 = .ok (.iload 4, 2) := by decide +kernel
theorem dX5_goOn_5 : decode cX5_goOn 5 = .ok (.aload_n 0, 1) := by decide +kernel
theorem dX5_goOn_6 : decode cX5_goOn 6 = .ok (.getfield 104, 3) := by decide +kernel
theorem dX5_goOn_9 : decode cX5_goOn 9 = .ok (.if_icmp .ge 75, 3) := by decide +kernel
theorem dX5_goOn_12 : decode cX5_goOn 12 = .ok (.aload_n 0, 1) := by decide +kernel
theorem dX5_goOn_13 : decode cX5_goOn 13 = .ok (.getfield 27, 3) := by decide +kernel
theorem dX5_goOn_16 : decode cX5_goOn 16 = .ok (.iload 4, 2) := by decide +kernel
theorem dX5_goOn_18 : decode cX5_goOn 18 = .ok (.aload_n 0, 1) := by decide +kernel
theorem dX5_goOn_19 : decode cX5_goOn 19 = .ok (.getfield 13, 3) := by decide +kernel
theorem dX5_goOn_22 : decode cX5_goOn 22 = .ok (.bipush 9, 2) := by decide +kernel
theorem dX5_goOn_24 : decode cX5_goOn 24 = .ok (.iload 4, 2) := by decide +kernel
theorem dX5_goOn_26 : decode cX5_goOn 26 = .ok (.iadd, 1) := by decide +kernel
theorem dX5_goOn_27 : decode cX5_goOn 27 = .ok (.iaload, 1) := by decide +kernel
theorem dX5_goOn_28 : decode cX5_goOn 28 = .ok (.i2l, 1) := by decide +kernel
theorem dX5_goOn_29 : decode cX5_goOn 29 = .ok (.lload_n 2, 1) := by decide +kernel
theorem dX5_goOn_30 : decode cX5_goOn 30 = .ok (.lmul, 1) := by decide +kernel
theorem dX5_goOn_31 : decode cX5_goOn 31 = .ok (.lastore, 1) := by decide +kernel
theorem dX5_goOn_32 : decode cX5_goOn 32 = .ok (.iconst 0, 1) := by decide +kernel
theorem dX5_goOn_33 : decode cX5_goOn 33 = .ok (.istore 5, 2) := by decide +kernel
theorem dX5_goOn_35 : decode cX5_goOn 35 = .ok (.iload 5, 2) := by decide +kernel
theorem dX5_goOn_37 : decode cX5_goOn 37 = .ok (.aload_n 0, 1) := by decide +kernel
theorem dX5_goOn_38 : decode cX5_goOn 38 = .ok (.getfield 104, 3) := by decide +kernel
theorem dX5_goOn_41 : decode cX5_goOn 41 = .ok (.if_icmp .ge 37, 3) := by decide +kernel
theorem dX5_goOn_44 : decode cX5_goOn 44 = .ok (.aload_n 0, 1) := by decide +kernel
theorem dX5_goOn_45 : decode cX5_goOn 45 = .ok (.getfield 27, 3) := by decide +kernel
theorem dX5_goOn_48 : decode cX5_goOn 48 = .ok (.iload 4, 2) := by decide +kernel
theorem dX5_goOn_50 : decode cX5_goOn 50 = .ok (.dup2, 1) := by decide +kernel
theorem dX5_goOn_51 : decode cX5_goOn 51 = .ok (.laload, 1) := by decide +kernel
theorem dX5_goOn_52 : decode cX5_goOn 52 = .ok (.aload_n 0, 1) := by decide +kernel
theorem dX5_goOn_53 : decode cX5_goOn 53 = .ok (.getfield 13, 3) := by decide +kernel
theorem dX5_goOn_56 : decode cX5_goOn 56 = .ok (.iconst 3, 1) := by decide +kernel
theorem dX5_goOn_57 : decode cX5_goOn 57 = .ok (.iload 4, 2) := by decide +kernel
theorem dX5_goOn_59 : decode cX5_goOn 59 = .ok (.imul, 1) := by decide +kernel
theorem dX5_goOn_60 : decode cX5_goOn 60 = .ok (.iload 5, 2) := by decide +kernel
theorem dX5_goOn_62 : decode cX5_goOn 62 = .ok (.iadd, 1) := by decide +kernel
theorem dX5_goOn_63 : decode cX5_goOn 63 = .ok (.iaload, 1) := by decide +kernel
theorem dX5_goOn_64 : decode cX5_goOn 64 = .ok (.i2l, 1) := by decide +kernel
theorem dX5_goOn_65 : decode cX5_goOn 65 = .ok (.aload_n 1, 1) := by decide +kernel
theorem dX5_goOn_66 : decode cX5_goOn 66 = .ok (.iload 5, 2) := by decide +kernel
theorem dX5_goOn_68 : decode cX5_goOn 68 = .ok (.laload, 1) := by decide +kernel
theorem dX5_goOn_69 : decode cX5_goOn 69 = .ok (.lmul, 1) := by decide +kernel
theorem dX5_goOn_70 : decode cX5_goOn 70 = .ok (.ladd, 1) := by decide +kernel
theorem dX5_goOn_71 : decode cX5_goOn 71 = .ok (.lastore, 1) := by decide +kernel
theorem dX5_goOn_72 : decode cX5_goOn 72 = .ok (.iinc 5 1, 3) := by decide +kernel
theorem dX5_goOn_75 : decode cX5_goOn 75 = .ok (.goto (-40), 3) := by decide +kernel
theorem dX5_goOn_78 : decode cX5_goOn 78 = .ok (.iinc 4 1, 3) := by decide +kernel
theorem dX5_goOn_81 : decode cX5_goOn 81 = .ok (.goto (-78), 3) := by decide +kernel
theorem dX5_goOn_84 : decode cX5_goOn 84 = .ok (.iconst 0, 1) := by decide +kernel
theorem dX5_goOn_85 : decode cX5_goOn 85 = .ok (.istore 4, 2) := by decide +kernel
theorem dX5_goOn_87 : decode cX5_goOn 87 = .ok (.iload 4, 2) := by decide +kernel
theorem dX5_goOn_89 : decode cX5_goOn 89 = .ok (.aload_n 0, 1) := by decide +kernel
theorem dX5_goOn_90 : decode cX5_goOn 90 = .ok (.getfield 104, 3) := by decide +kernel
theorem dX5_goOn_93 : decode cX5_goOn 93 = .ok (.if_icmp .ge 20, 3) := by decide +kernel
theorem dX5_goOn_96 : decode cX5_goOn 96 = .ok (.aload_n 1, 1) := by decide +kernel
theorem dX5_goOn_97 : decode cX5_goOn 97 = .ok (.iload 4, 2) := by decide +kernel
theorem dX5_goOn_99 : decode cX5_goOn 99 = .ok (.aload_n 0, 1) := by decide +kernel
theorem dX5_goOn_100 : decode cX5_goOn 100 = .ok (.getfield 27, 3) := by decide +kernel
theorem dX5_goOn_103 : decode cX5_goOn 103 = .ok (.iload 4, 2) := by decide +kernel
theorem dX5_goOn_105 : decode cX5_goOn 105 = .ok (.laload, 1) := by decide +kernel
theorem dX5_goOn_106 : decode cX5_goOn 106 = .ok (.lastore, 1) := by decide +kernel
theorem dX5_goOn_107 : decode cX5_goOn 107 = .ok (.iinc 4 1, 3) := by decide +kernel
theorem dX5_goOn_110 : decode cX5_goOn 110 = .ok (.goto (-23), 3) := by decide +kernel
theorem dX5_goOn_113 : decode cX5_goOn 113 = .ok (.return_, 1) := by decide +kernel
theorem dX5_seenNow_0 : decode cX5_seenNow 0 = .ok (.lconst 0, 1) := by decide +kernel
theorem dX5_seenNow_1 : decode cX5_seenNow 1 = .ok (.lstore_n 1, 1) := by decide +kernel
theorem dX5_seenNow_2 : decode cX5_seenNow 2 = .ok (.iconst 0, 1) := by decide +kernel
theorem dX5_seenNow_3 : decode cX5_seenNow 3 = .ok (.istore_n 3, 1) := by decide +kernel
theorem dX5_seenNow_4 : decode cX5_seenNow 4 = .ok (.iload_n 3, 1) := by decide +kernel
theorem dX5_seenNow_5 : decode cX5_seenNow 5 = .ok (.aload_n 0, 1) := by decide +kernel
theorem dX5_seenNow_6 : decode cX5_seenNow 6 = .ok (.getfield 104, 3) := by decide +kernel
theorem dX5_seenNow_9 : decode cX5_seenNow 9 = .ok (.if_icmp .ge 29, 3) := by decide +kernel
theorem dX5_seenNow_12 : decode cX5_seenNow 12 = .ok (.lload_n 1, 1) := by decide +kernel
theorem dX5_seenNow_13 : decode cX5_seenNow 13 = .ok (.aload_n 0, 1) := by decide +kernel
theorem dX5_seenNow_14 : decode cX5_seenNow 14 = .ok (.getfield 13, 3) := by decide +kernel
theorem dX5_seenNow_17 : decode cX5_seenNow 17 = .ok (.bipush 12, 2) := by decide +kernel
theorem dX5_seenNow_19 : decode cX5_seenNow 19 = .ok (.iload_n 3, 1) := by decide +kernel
theorem dX5_seenNow_20 : decode cX5_seenNow 20 = .ok (.iadd, 1) := by decide +kernel
theorem dX5_seenNow_21 : decode cX5_seenNow 21 = .ok (.iaload, 1) := by decide +kernel
theorem dX5_seenNow_22 : decode cX5_seenNow 22 = .ok (.i2l, 1) := by decide +kernel
theorem dX5_seenNow_23 : decode cX5_seenNow 23 = .ok (.aload_n 0, 1) := by decide +kernel
theorem dX5_seenNow_24 : decode cX5_seenNow 24 = .ok (.getfield 16, 3) := by decide +kernel
theorem dX5_seenNow_27 : decode cX5_seenNow 27 = .ok (.iload_n 3, 1) := by decide +kernel
theorem dX5_seenNow_28 : decode cX5_seenNow 28 = .ok (.laload, 1) := by decide +kernel
theorem dX5_seenNow_29 : decode cX5_seenNow 29 = .ok (.lmul, 1) := by decide +kernel
theorem dX5_seenNow_30 : decode cX5_seenNow 30 = .ok (.ladd, 1) := by decide +kernel
theorem dX5_seenNow_31 : decode cX5_seenNow 31 = .ok (.lstore_n 1, 1) := by decide +kernel
theorem dX5_seenNow_32 : decode cX5_seenNow 32 = .ok (.iinc 3 1, 3) := by decide +kernel
theorem dX5_seenNow_35 : decode cX5_seenNow 35 = .ok (.goto (-31), 3) := by decide +kernel
theorem dX5_seenNow_38 : decode cX5_seenNow 38 = .ok (.lload_n 1, 1) := by decide +kernel
theorem dX5_seenNow_39 : decode cX5_seenNow 39 = .ok (.lreturn, 1) := by decide +kernel
theorem dX5_layTried_0 : decode cX5_layTried 0 = .ok (.iconst 0, 1) := by decide +kernel
theorem dX5_layTried_1 : decode cX5_layTried 1 = .ok (.istore_n 1, 1) := by decide +kernel
theorem dX5_layTried_2 : decode cX5_layTried 2 = .ok (.iload_n 1, 1) := by decide +kernel
theorem dX5_layTried_3 : decode cX5_layTried 3 = .ok (.aload_n 0, 1) := by decide +kernel
theorem dX5_layTried_4 : decode cX5_layTried 4 = .ok (.getfield 104, 3) := by decide +kernel
theorem dX5_layTried_7 : decode cX5_layTried 7 = .ok (.if_icmp .ge 21, 3) := by decide +kernel
theorem dX5_layTried_10 : decode cX5_layTried 10 = .ok (.aload_n 0, 1) := by decide +kernel
theorem dX5_layTried_11 : decode cX5_layTried 11 = .ok (.getfield 30, 3) := by decide +kernel
theorem dX5_layTried_14 : decode cX5_layTried 14 = .ok (.iload_n 1, 1) := by decide +kernel
theorem dX5_layTried_15 : decode cX5_layTried 15 = .ok (.aload_n 0, 1) := by decide +kernel
theorem dX5_layTried_16 : decode cX5_layTried 16 = .ok (.getfield 16, 3) := by decide +kernel
theorem dX5_layTried_19 : decode cX5_layTried 19 = .ok (.iload_n 1, 1) := by decide +kernel
theorem dX5_layTried_20 : decode cX5_layTried 20 = .ok (.laload, 1) := by decide +kernel
theorem dX5_layTried_21 : decode cX5_layTried 21 = .ok (.lastore, 1) := by decide +kernel
theorem dX5_layTried_22 : decode cX5_layTried 22 = .ok (.iinc 1 1, 3) := by decide +kernel
theorem dX5_layTried_25 : decode cX5_layTried 25 = .ok (.goto (-23), 3) := by decide +kernel
theorem dX5_layTried_28 : decode cX5_layTried 28 = .ok (.return_, 1) := by decide +kernel
set_option maxRecDepth 20000 in
theorem ggX5_tick_X5_within : GoodIn wsX5_tick wsX5_within := goodIn_r _ [12] (by decide +kernel) (by decide +kernel)
set_option maxRecDepth 20000 in
theorem gX5_tick_X5_within : GoodIn wsX5_tick (va_wsS RX5 57 yX5_within wsX5_within) := goodIn_app (goodIn_of _ (by decide +kernel)) ggX5_tick_X5_within
set_option maxRecDepth 20000 in
theorem ggX5_tick_X5_layTried : GoodIn wsX5_tick wsX5_layTried := goodIn_r _ [16, 1, 4, 7, 27, 28, 29, 30, 31, 32, 33, 34, 35, 36, 37, 38, 39, 40, 41, 42, 43, 44, 45, 46, 47, 48, 49, 50, 51, 52, 53] (by decide +kernel) (by decide +kernel)
set_option maxRecDepth 20000 in
theorem gX5_tick_X5_layTried : GoodIn wsX5_tick (wsV RX5 118 RX5 yX5_layTried wsX5_layTried) := goodIn_app (goodIn_of _ (by decide +kernel)) ggX5_tick_X5_layTried
set_option maxRecDepth 20000 in
theorem ggX5_tick_X5_goOn : GoodIn wsX5_tick wsX5_goOn := goodIn_r _ [20, 1, 21, 22, 27, 28, 29, 30, 31, 32, 33, 34, 35, 36, 37, 38, 39, 40, 41, 42, 43, 44, 45, 46, 47, 48, 49, 50, 51, 52, 53] (by decide +kernel) (by decide +kernel)
set_option maxRecDepth 20000 in
theorem gX5_tick_X5_goOn : GoodIn wsX5_tick (wsV RX5 121 RX5 yX5_goOn wsX5_goOn) := goodIn_app (goodIn_of _ (by decide +kernel)) ggX5_tick_X5_goOn
set_option maxRecDepth 20000 in
theorem ggX5_tick_X5_seenNow : GoodIn wsX5_tick wsX5_seenNow := goodIn_r _ [26, 1, 22, 7, 27, 28, 29, 30, 31, 32, 33, 34, 35, 36, 37, 38, 39, 40, 41, 42, 43, 44, 45, 46, 47, 48, 49, 50, 51, 52, 53] (by decide +kernel) (by decide +kernel)
set_option maxRecDepth 20000 in
theorem gX5_tick_X5_seenNow : GoodIn wsX5_tick (wsV RX5 132 RX5 yX5_seenNow wsX5_seenNow) := goodIn_app (goodIn_of _ (by decide +kernel)) ggX5_tick_X5_seenNow
theorem dX5_tick_0 : decode cX5_tick 0 = .ok (.aload_n 0, 1) := by decide +kernel
theorem dX5_tick_1 : decode cX5_tick 1 = .ok (.getfield 104, 3) := by decide +kernel
theorem dX5_tick_4 : decode cX5_tick 4 = .ok (.ifCond .ne 7, 3) := by decide +kernel
theorem dX5_tick_7 : decode cX5_tick 7 = .ok (.ldc2_w 102, 3) := by decide +kernel
theorem dX5_tick_10 : decode cX5_tick 10 = .ok (.lreturn, 1) := by decide +kernel
theorem dX5_tick_11 : decode cX5_tick 11 = .ok (.iload_n 1, 1) := by decide +kernel
theorem dX5_tick_12 : decode cX5_tick 12 = .ok (.bipush (-100), 2) := by decide +kernel
theorem dX5_tick_14 : decode cX5_tick 14 = .ok (.bipush 100, 2) := by decide +kernel
theorem dX5_tick_16 : decode cX5_tick 16 = .ok (.invokestatic 57, 3) := by decide +kernel
theorem dX5_tick_19 : decode cX5_tick 19 = .ok (.ifCond .ne 7, 3) := by decide +kernel
theorem dX5_tick_22 : decode cX5_tick 22 = .ok (.ldc2_w 61, 3) := by decide +kernel
theorem dX5_tick_25 : decode cX5_tick 25 = .ok (.lreturn, 1) := by decide +kernel
theorem dX5_tick_26 : decode cX5_tick 26 = .ok (.aload_n 0, 1) := by decide +kernel
theorem dX5_tick_27 : decode cX5_tick 27 = .ok (.invokevirtual 118, 3) := by decide +kernel
theorem dX5_tick_30 : decode cX5_tick 30 = .ok (.aload_n 0, 1) := by decide +kernel
theorem dX5_tick_31 : decode cX5_tick 31 = .ok (.aload_n 0, 1) := by decide +kernel
theorem dX5_tick_32 : decode cX5_tick 32 = .ok (.getfield 30, 3) := by decide +kernel
theorem dX5_tick_35 : decode cX5_tick 35 = .ok (.iload_n 1, 1) := by decide +kernel
theorem dX5_tick_36 : decode cX5_tick 36 = .ok (.i2l, 1) := by decide +kernel
theorem dX5_tick_37 : decode cX5_tick 37 = .ok (.invokevirtual 121, 3) := by decide +kernel
theorem dX5_tick_40 : decode cX5_tick 40 = .ok (.iconst 0, 1) := by decide +kernel
theorem dX5_tick_41 : decode cX5_tick 41 = .ok (.istore_n 2, 1) := by decide +kernel
theorem dX5_tick_42 : decode cX5_tick 42 = .ok (.iload_n 2, 1) := by decide +kernel
theorem dX5_tick_43 : decode cX5_tick 43 = .ok (.aload_n 0, 1) := by decide +kernel
theorem dX5_tick_44 : decode cX5_tick 44 = .ok (.getfield 104, 3) := by decide +kernel
theorem dX5_tick_47 : decode cX5_tick 47 = .ok (.if_icmp .ge 39, 3) := by decide +kernel
theorem dX5_tick_50 : decode cX5_tick 50 = .ok (.aload_n 0, 1) := by decide +kernel
theorem dX5_tick_51 : decode cX5_tick 51 = .ok (.getfield 30, 3) := by decide +kernel
theorem dX5_tick_54 : decode cX5_tick 54 = .ok (.iload_n 2, 1) := by decide +kernel
theorem dX5_tick_55 : decode cX5_tick 55 = .ok (.laload, 1) := by decide +kernel
theorem dX5_tick_56 : decode cX5_tick 56 = .ok (.ldc2_w 125, 3) := by decide +kernel
theorem dX5_tick_59 : decode cX5_tick 59 = .ok (.lcmp, 1) := by decide +kernel
theorem dX5_tick_60 : decode cX5_tick 60 = .ok (.ifCond .lt 16, 3) := by decide +kernel
theorem dX5_tick_63 : decode cX5_tick 63 = .ok (.aload_n 0, 1) := by decide +kernel
theorem dX5_tick_64 : decode cX5_tick 64 = .ok (.getfield 30, 3) := by decide +kernel
theorem dX5_tick_67 : decode cX5_tick 67 = .ok (.iload_n 2, 1) := by decide +kernel
theorem dX5_tick_68 : decode cX5_tick 68 = .ok (.laload, 1) := by decide +kernel
theorem dX5_tick_69 : decode cX5_tick 69 = .ok (.ldc2_w 127, 3) := by decide +kernel
theorem dX5_tick_72 : decode cX5_tick 72 = .ok (.lcmp, 1) := by decide +kernel
theorem dX5_tick_73 : decode cX5_tick 73 = .ok (.ifCond .le 7, 3) := by decide +kernel
theorem dX5_tick_76 : decode cX5_tick 76 = .ok (.ldc2_w 102, 3) := by decide +kernel
theorem dX5_tick_79 : decode cX5_tick 79 = .ok (.lreturn, 1) := by decide +kernel
theorem dX5_tick_80 : decode cX5_tick 80 = .ok (.iinc 2 1, 3) := by decide +kernel
theorem dX5_tick_83 : decode cX5_tick 83 = .ok (.goto (-41), 3) := by decide +kernel
theorem dX5_tick_86 : decode cX5_tick 86 = .ok (.iconst 0, 1) := by decide +kernel
theorem dX5_tick_87 : decode cX5_tick 87 = .ok (.istore_n 2, 1) := by decide +kernel
theorem dX5_tick_88 : decode cX5_tick 88 = .ok (.iload_n 2, 1) := by decide +kernel
theorem dX5_tick_89 : decode cX5_tick 89 = .ok (.aload_n 0, 1) := by decide +kernel
theorem dX5_tick_90 : decode cX5_tick 90 = .ok (.getfield 104, 3) := by decide +kernel
theorem dX5_tick_93 : decode cX5_tick 93 = .ok (.if_icmp .ge 21, 3) := by decide +kernel
theorem dX5_tick_96 : decode cX5_tick 96 = .ok (.aload_n 0, 1) := by decide +kernel
theorem dX5_tick_97 : decode cX5_tick 97 = .ok (.getfield 16, 3) := by decide +kernel
theorem dX5_tick_100 : decode cX5_tick 100 = .ok (.iload_n 2, 1) := by decide +kernel
theorem dX5_tick_101 : decode cX5_tick 101 = .ok (.aload_n 0, 1) := by decide +kernel
theorem dX5_tick_102 : decode cX5_tick 102 = .ok (.getfield 30, 3) := by decide +kernel
theorem dX5_tick_105 : decode cX5_tick 105 = .ok (.iload_n 2, 1) := by decide +kernel
theorem dX5_tick_106 : decode cX5_tick 106 = .ok (.laload, 1) := by decide +kernel
theorem dX5_tick_107 : decode cX5_tick 107 = .ok (.lastore, 1) := by decide +kernel
theorem dX5_tick_108 : decode cX5_tick 108 = .ok (.iinc 2 1, 3) := by decide +kernel
theorem dX5_tick_111 : decode cX5_tick 111 = .ok (.goto (-23), 3) := by decide +kernel
theorem dX5_tick_114 : decode cX5_tick 114 = .ok (.aload_n 0, 1) := by decide +kernel
theorem dX5_tick_115 : decode cX5_tick 115 = .ok (.dup, 1) := by decide +kernel
theorem dX5_tick_116 : decode cX5_tick 116 = .ok (.getfield 129, 3) := by decide +kernel
theorem dX5_tick_119 : decode cX5_tick 119 = .ok (.iconst 1, 1) := by decide +kernel
theorem dX5_tick_120 : decode cX5_tick 120 = .ok (.iadd, 1) := by decide +kernel
theorem dX5_tick_121 : decode cX5_tick 121 = .ok (.putfield 129, 3) := by decide +kernel
theorem dX5_tick_124 : decode cX5_tick 124 = .ok (.aload_n 0, 1) := by decide +kernel
theorem dX5_tick_125 : decode cX5_tick 125 = .ok (.invokevirtual 132, 3) := by decide +kernel
theorem dX5_tick_128 : decode cX5_tick 128 = .ok (.lreturn, 1) := by decide +kernel
theorem dX5_tableAt_0 : decode cX5_tableAt 0 = .ok (.aload_n 0, 1) := by decide +kernel
theorem dX5_tableAt_1 : decode cX5_tableAt 1 = .ok (.getfield 13, 3) := by decide +kernel
theorem dX5_tableAt_4 : decode cX5_tableAt 4 = .ok (.iload_n 1, 1) := by decide +kernel
theorem dX5_tableAt_5 : decode cX5_tableAt 5 = .ok (.ifCond .eq 11, 3) := by decide +kernel
theorem dX5_tableAt_8 : decode cX5_tableAt 8 = .ok (.iconst 3, 1) := by decide +kernel
theorem dX5_tableAt_9 : decode cX5_tableAt 9 = .ok (.iload_n 3, 1) := by decide +kernel
theorem dX5_tableAt_10 : decode cX5_tableAt 10 = .ok (.imul, 1) := by decide +kernel
theorem dX5_tableAt_11 : decode cX5_tableAt 11 = .ok (.iload_n 2, 1) := by decide +kernel
theorem dX5_tableAt_12 : decode cX5_tableAt 12 = .ok (.iadd, 1) := by decide +kernel
theorem dX5_tableAt_13 : decode cX5_tableAt 13 = .ok (.goto 8, 3) := by decide +kernel
theorem dX5_tableAt_16 : decode cX5_tableAt 16 = .ok (.iconst 3, 1) := by decide +kernel
theorem dX5_tableAt_17 : decode cX5_tableAt 17 = .ok (.iload_n 2, 1) := by decide +kernel
theorem dX5_tableAt_18 : decode cX5_tableAt 18 = .ok (.imul, 1) := by decide +kernel
theorem dX5_tableAt_19 : decode cX5_tableAt 19 = .ok (.iload_n 3, 1) := by decide +kernel
theorem dX5_tableAt_20 : decode cX5_tableAt 20 = .ok (.iadd, 1) := by decide +kernel
theorem dX5_tableAt_21 : decode cX5_tableAt 21 = .ok (.iaload, 1) := by decide +kernel
theorem dX5_tableAt_22 : decode cX5_tableAt 22 = .ok (.ireturn, 1) := by decide +kernel
set_option maxRecDepth 20000 in
theorem ggX5_layRows_X5_isPlace : GoodIn wsX5_layRows wsX5_isPlace := goodIn_r _ [8, 2, 9, 10, 7, 11, 16, 17, 18, 19, 20, 21, 22, 23, 24, 25, 26, 27, 28, 29, 30, 31, 32, 33, 34, 35, 36, 37, 38, 39, 40, 41, 42] (by decide +kernel) (by decide +kernel)
set_option maxRecDepth 20000 in
theorem gX5_layRows_X5_isPlace : GoodIn wsX5_layRows (wsV RX5 113 RX5 yX5_isPlace wsX5_isPlace) := goodIn_app (goodIn_of _ (by decide +kernel)) ggX5_layRows_X5_isPlace
set_option maxRecDepth 20000 in
theorem ggX5_layRows_X5_tableAt : GoodIn wsX5_layRows wsX5_tableAt := goodIn_r _ [15, 3, 16, 17, 18, 19, 20, 21, 22, 23, 24, 25, 26, 27, 28, 29, 30, 31, 32, 33, 34, 35, 36, 37, 38, 39, 40, 41, 42] (by decide +kernel) (by decide +kernel)
set_option maxRecDepth 20000 in
theorem gX5_layRows_X5_tableAt : GoodIn wsX5_layRows (wsV RX5 136 RX5 yX5_tableAt wsX5_tableAt) := goodIn_app (goodIn_of _ (by decide +kernel)) ggX5_layRows_X5_tableAt
theorem dX5_layRows_0 : decode cX5_layRows 0 = .ok (.iconst 0, 1) := by decide +kernel
theorem dX5_layRows_1 : decode cX5_layRows 1 = .ok (.istore_n 2, 1) := by decide +kernel
theorem dX5_layRows_2 : decode cX5_layRows 2 = .ok (.iload_n 2, 1) := by decide +kernel
theorem dX5_layRows_3 : decode cX5_layRows 3 = .ok (.bipush 9, 2) := by decide +kernel
theorem dX5_layRows_5 : decode cX5_layRows 5 = .ok (.if_icmp .ge 53, 3) := by decide +kernel
theorem dX5_layRows_8 : decode cX5_layRows 8 = .ok (.aload_n 0, 1) := by decide +kernel
theorem dX5_layRows_9 : decode cX5_layRows 9 = .ok (.getfield 33, 3) := by decide +kernel
theorem dX5_layRows_12 : decode cX5_layRows 12 = .ok (.iload_n 2, 1) := by decide +kernel
theorem dX5_layRows_13 : decode cX5_layRows 13 = .ok (.aload_n 0, 1) := by decide +kernel
theorem dX5_layRows_14 : decode cX5_layRows 14 = .ok (.iload_n 2, 1) := by decide +kernel
theorem dX5_layRows_15 : decode cX5_layRows 15 = .ok (.iconst 3, 1) := by decide +kernel
theorem dX5_layRows_16 : decode cX5_layRows 16 = .ok (.idiv, 1) := by decide +kernel
theorem dX5_layRows_17 : decode cX5_layRows 17 = .ok (.invokevirtual 113, 3) := by decide +kernel
theorem dX5_layRows_20 : decode cX5_layRows 20 = .ok (.ifCond .eq 17, 3) := by decide +kernel
theorem dX5_layRows_23 : decode cX5_layRows 23 = .ok (.aload_n 0, 1) := by decide +kernel
theorem dX5_layRows_24 : decode cX5_layRows 24 = .ok (.iload_n 2, 1) := by decide +kernel
theorem dX5_layRows_25 : decode cX5_layRows 25 = .ok (.iconst 3, 1) := by decide +kernel
theorem dX5_layRows_26 : decode cX5_layRows 26 = .ok (.irem, 1) := by decide +kernel
theorem dX5_layRows_27 : decode cX5_layRows 27 = .ok (.invokevirtual 113, 3) := by decide +kernel
theorem dX5_layRows_30 : decode cX5_layRows 30 = .ok (.ifCond .eq 7, 3) := by decide +kernel
theorem dX5_layRows_33 : decode cX5_layRows 33 = .ok (.lconst 0, 1) := by decide +kernel
theorem dX5_layRows_34 : decode cX5_layRows 34 = .ok (.goto 17, 3) := by decide +kernel
theorem dX5_layRows_37 : decode cX5_layRows 37 = .ok (.iload_n 2, 1) := by decide +kernel
theorem dX5_layRows_38 : decode cX5_layRows 38 = .ok (.iconst 3, 1) := by decide +kernel
theorem dX5_layRows_39 : decode cX5_layRows 39 = .ok (.idiv, 1) := by decide +kernel
theorem dX5_layRows_40 : decode cX5_layRows 40 = .ok (.iload_n 2, 1) := by decide +kernel
theorem dX5_layRows_41 : decode cX5_layRows 41 = .ok (.iconst 3, 1) := by decide +kernel
theorem dX5_layRows_42 : decode cX5_layRows 42 = .ok (.irem, 1) := by decide +kernel
theorem dX5_layRows_43 : decode cX5_layRows 43 = .ok (.if_icmp .ne 7, 3) := by decide +kernel
theorem dX5_layRows_46 : decode cX5_layRows 46 = .ok (.lconst 1, 1) := by decide +kernel
theorem dX5_layRows_47 : decode cX5_layRows 47 = .ok (.goto 4, 3) := by decide +kernel
theorem dX5_layRows_50 : decode cX5_layRows 50 = .ok (.lconst 0, 1) := by decide +kernel
theorem dX5_layRows_51 : decode cX5_layRows 51 = .ok (.lastore, 1) := by decide +kernel
theorem dX5_layRows_52 : decode cX5_layRows 52 = .ok (.iinc 2 1, 3) := by decide +kernel
theorem dX5_layRows_55 : decode cX5_layRows 55 = .ok (.goto (-53), 3) := by decide +kernel
theorem dX5_layRows_58 : decode cX5_layRows 58 = .ok (.iconst 0, 1) := by decide +kernel
theorem dX5_layRows_59 : decode cX5_layRows 59 = .ok (.istore_n 2, 1) := by decide +kernel
theorem dX5_layRows_60 : decode cX5_layRows 60 = .ok (.iload_n 2, 1) := by decide +kernel
theorem dX5_layRows_61 : decode cX5_layRows 61 = .ok (.aload_n 0, 1) := by decide +kernel
theorem dX5_layRows_62 : decode cX5_layRows 62 = .ok (.getfield 104, 3) := by decide +kernel
theorem dX5_layRows_65 : decode cX5_layRows 65 = .ok (.if_icmp .ge 120, 3) := by decide +kernel
theorem dX5_layRows_68 : decode cX5_layRows 68 = .ok (.iconst 0, 1) := by decide +kernel
theorem dX5_layRows_69 : decode cX5_layRows 69 = .ok (.istore_n 3, 1) := by decide +kernel
theorem dX5_layRows_70 : decode cX5_layRows 70 = .ok (.iload_n 3, 1) := by decide +kernel
theorem dX5_layRows_71 : decode cX5_layRows 71 = .ok (.aload_n 0, 1) := by decide +kernel
theorem dX5_layRows_72 : decode cX5_layRows 72 = .ok (.getfield 104, 3) := by decide +kernel
theorem dX5_layRows_75 : decode cX5_layRows 75 = .ok (.if_icmp .ge 104, 3) := by decide +kernel
theorem dX5_layRows_78 : decode cX5_layRows 78 = .ok (.aload_n 0, 1) := by decide +kernel
theorem dX5_layRows_79 : decode cX5_layRows 79 = .ok (.getfield 33, 3) := by decide +kernel
theorem dX5_layRows_82 : decode cX5_layRows 82 = .ok (.iconst 3, 1) := by decide +kernel
theorem dX5_layRows_83 : decode cX5_layRows 83 = .ok (.iload_n 2, 1) := by decide +kernel
theorem dX5_layRows_84 : decode cX5_layRows 84 = .ok (.imul, 1) := by decide +kernel
theorem dX5_layRows_85 : decode cX5_layRows 85 = .ok (.iload_n 3, 1) := by decide +kernel
theorem dX5_layRows_86 : decode cX5_layRows 86 = .ok (.iadd, 1) := by decide +kernel
theorem dX5_layRows_87 : decode cX5_layRows 87 = .ok (.iload_n 2, 1) := by decide +kernel
theorem dX5_layRows_88 : decode cX5_layRows 88 = .ok (.ifCond .ne 25, 3) := by decide +kernel
theorem dX5_layRows_91 : decode cX5_layRows 91 = .ok (.aload_n 0, 1) := by decide +kernel
theorem dX5_layRows_92 : decode cX5_layRows 92 = .ok (.getfield 13, 3) := by decide +kernel
theorem dX5_layRows_95 : decode cX5_layRows 95 = .ok (.iload_n 1, 1) := by decide +kernel
theorem dX5_layRows_96 : decode cX5_layRows 96 = .ok (.ifCond .eq 8, 3) := by decide +kernel
theorem dX5_layRows_99 : decode cX5_layRows 99 = .ok (.bipush 12, 2) := by decide +kernel
theorem dX5_layRows_101 : decode cX5_layRows 101 = .ok (.goto 5, 3) := by decide +kernel
theorem dX5_layRows_104 : decode cX5_layRows 104 = .ok (.bipush 9, 2) := by decide +kernel
theorem dX5_layRows_106 : decode cX5_layRows 106 = .ok (.iload_n 3, 1) := by decide +kernel
theorem dX5_layRows_107 : decode cX5_layRows 107 = .ok (.iadd, 1) := by decide +kernel
theorem dX5_layRows_108 : decode cX5_layRows 108 = .ok (.iaload, 1) := by decide +kernel
theorem dX5_layRows_109 : decode cX5_layRows 109 = .ok (.i2l, 1) := by decide +kernel
theorem dX5_layRows_110 : decode cX5_layRows 110 = .ok (.goto 4, 3) := by decide +kernel
theorem dX5_layRows_113 : decode cX5_layRows 113 = .ok (.lconst 0, 1) := by decide +kernel
theorem dX5_layRows_114 : decode cX5_layRows 114 = .ok (.lastore, 1) := by decide +kernel
theorem dX5_layRows_115 : decode cX5_layRows 115 = .ok (.iconst 0, 1) := by decide +kernel
theorem dX5_layRows_116 : decode cX5_layRows 116 = .ok (.istore 4, 2) := by decide +kernel
theorem dX5_layRows_118 : decode cX5_layRows 118 = .ok (.iload 4, 2) := by decide +kernel
theorem dX5_layRows_120 : decode cX5_layRows 120 = .ok (.aload_n 0, 1) := by decide +kernel
theorem dX5_layRows_121 : decode cX5_layRows 121 = .ok (.getfield 104, 3) := by decide +kernel
theorem dX5_layRows_124 : decode cX5_layRows 124 = .ok (.if_icmp .ge 49, 3) := by decide +kernel
theorem dX5_layRows_127 : decode cX5_layRows 127 = .ok (.iload_n 2, 1) := by decide +kernel
theorem dX5_layRows_128 : decode cX5_layRows 128 = .ok (.ifCond .le 45, 3) := by decide +kernel
theorem dX5_layRows_131 : decode cX5_layRows 131 = .ok (.aload_n 0, 1) := by decide +kernel
theorem dX5_layRows_132 : decode cX5_layRows 132 = .ok (.getfield 33, 3) := by decide +kernel
theorem dX5_layRows_135 : decode cX5_layRows 135 = .ok (.iconst 3, 1) := by decide +kernel
theorem dX5_layRows_136 : decode cX5_layRows 136 = .ok (.iload_n 2, 1) := by decide +kernel
theorem dX5_layRows_137 : decode cX5_layRows 137 = .ok (.imul, 1) := by decide +kernel
theorem dX5_layRows_138 : decode cX5_layRows 138 = .ok (.iload_n 3, 1) := by decide +kernel
theorem dX5_layRows_139 : decode cX5_layRows 139 = .ok (.iadd, 1) := by decide +kernel
theorem dX5_layRows_140 : decode cX5_layRows 140 = .ok (.dup2, 1) := by decide +kernel
theorem dX5_layRows_141 : decode cX5_layRows 141 = .ok (.laload, 1) := by decide +kernel
theorem dX5_layRows_142 : decode cX5_layRows 142 = .ok (.aload_n 0, 1) := by decide +kernel
theorem dX5_layRows_143 : decode cX5_layRows 143 = .ok (.iload_n 1, 1) := by decide +kernel
theorem dX5_layRows_144 : decode cX5_layRows 144 = .ok (.iload_n 3, 1) := by decide +kernel
theorem dX5_layRows_145 : decode cX5_layRows 145 = .ok (.iload 4, 2) := by decide +kernel
theorem dX5_layRows_147 : decode cX5_layRows 147 = .ok (.invokevirtual 136, 3) := by decide +kernel
theorem dX5_layRows_150 : decode cX5_layRows 150 = .ok (.i2l, 1) := by decide +kernel
theorem dX5_layRows_151 : decode cX5_layRows 151 = .ok (.aload_n 0, 1) := by decide +kernel
theorem dX5_layRows_152 : decode cX5_layRows 152 = .ok (.getfield 33, 3) := by decide +kernel
theorem dX5_layRows_155 : decode cX5_layRows 155 = .ok (.iconst 3, 1) := by decide +kernel
theorem dX5_layRows_156 : decode cX5_layRows 156 = .ok (.iload_n 2, 1) := by decide +kernel
theorem dX5_layRows_157 : decode cX5_layRows 157 = .ok (.iconst 1, 1) := by decide +kernel
theorem dX5_layRows_158 : decode cX5_layRows 158 = .ok (.isub, 1) := by decide +kernel
theorem dX5_layRows_159 : decode cX5_layRows 159 = .ok (.imul, 1) := by decide +kernel
theorem dX5_layRows_160 : decode cX5_layRows 160 = .ok (.iload 4, 2) := by decide +kernel
theorem dX5_layRows_162 : decode cX5_layRows 162 = .ok (.iadd, 1) := by decide +kernel
theorem dX5_layRows_163 : decode cX5_layRows 163 = .ok (.laload, 1) := by decide +kernel
theorem dX5_layRows_164 : decode cX5_layRows 164 = .ok (.lmul, 1) := by decide +kernel
theorem dX5_layRows_165 : decode cX5_layRows 165 = .ok (.ladd, 1) := by decide +kernel
theorem dX5_layRows_166 : decode cX5_layRows 166 = .ok (.lastore, 1) := by decide +kernel
theorem dX5_layRows_167 : decode cX5_layRows 167 = .ok (.iinc 4 1, 3) := by decide +kernel
theorem dX5_layRows_170 : decode cX5_layRows 170 = .ok (.goto (-52), 3) := by decide +kernel
theorem dX5_layRows_173 : decode cX5_layRows 173 = .ok (.iinc 3 1, 3) := by decide +kernel
theorem dX5_layRows_176 : decode cX5_layRows 176 = .ok (.goto (-106), 3) := by decide +kernel
theorem dX5_layRows_179 : decode cX5_layRows 179 = .ok (.iinc 2 1, 3) := by decide +kernel
theorem dX5_layRows_182 : decode cX5_layRows 182 = .ok (.goto (-122), 3) := by decide +kernel
theorem dX5_layRows_185 : decode cX5_layRows 185 = .ok (.return_, 1) := by decide +kernel
set_option maxRecDepth 20000 in
theorem ggX5_row_X5_isPlace : GoodIn wsX5_row wsX5_isPlace := goodIn_r _ [7, 8, 9, 10, 6, 11, 21, 22, 23, 24, 25, 26, 27, 28, 29, 30, 31, 32, 33, 34, 35, 36, 37, 38, 39, 40, 41, 42, 43, 44, 45, 46, 47] (by decide +kernel) (by decide +kernel)
set_option maxRecDepth 20000 in
theorem gX5_row_X5_isPlace : GoodIn wsX5_row (wsV RX5 113 RX5 yX5_isPlace wsX5_isPlace) := goodIn_app (goodIn_of _ (by decide +kernel)) ggX5_row_X5_isPlace
set_option maxRecDepth 20000 in
theorem ggX5_row_X5_layRows : GoodIn wsX5_row wsX5_layRows := goodIn_r _ [15, 2, 8, 16, 3, 4, 5, 6, 7, 9, 10, 11, 17, 18, 19, 20, 21, 22, 23, 24, 25, 26, 27, 28, 29, 30, 31, 32, 33, 34, 35, 36, 37, 38, 39, 40, 41, 42, 43, 44, 45, 46, 47] (by decide +kernel) (by decide +kernel)
set_option maxRecDepth 20000 in
theorem gX5_row_X5_layRows : GoodIn wsX5_row (wsV RX5 140 RX5 yX5_layRows wsX5_layRows) := goodIn_app (goodIn_of _ (by decide +kernel)) ggX5_row_X5_layRows
theorem dX5_row_0 : decode cX5_row 0 = .ok (.aload_n 0, 1) := by decide +kernel
theorem dX5_row_1 : decode cX5_row 1 = .ok (.iload_n 2, 1) := by decide +kernel
theorem dX5_row_2 : decode cX5_row 2 = .ok (.invokevirtual 113, 3) := by decide +kernel
theorem dX5_row_5 : decode cX5_row 5 = .ok (.ifCond .eq 11, 3) := by decide +kernel
theorem dX5_row_8 : decode cX5_row 8 = .ok (.aload_n 0, 1) := by decide +kernel
theorem dX5_row_9 : decode cX5_row 9 = .ok (.iload_n 3, 1) := by decide +kernel
theorem dX5_row_10 : decode cX5_row 10 = .ok (.invokevirtual 113, 3) := by decide +kernel
theorem dX5_row_13 : decode cX5_row 13 = .ok (.ifCond .ne 7, 3) := by decide +kernel
theorem dX5_row_16 : decode cX5_row 16 = .ok (.ldc2_w 116, 3) := by decide +kernel
theorem dX5_row_19 : decode cX5_row 19 = .ok (.lreturn, 1) := by decide +kernel
theorem dX5_row_20 : decode cX5_row 20 = .ok (.aload_n 0, 1) := by decide +kernel
theorem dX5_row_21 : decode cX5_row 21 = .ok (.iload_n 1, 1) := by decide +kernel
theorem dX5_row_22 : decode cX5_row 22 = .ok (.invokevirtual 140, 3) := by decide +kernel
theorem dX5_row_25 : decode cX5_row 25 = .ok (.aload_n 0, 1) := by decide +kernel
theorem dX5_row_26 : decode cX5_row 26 = .ok (.getfield 33, 3) := by decide +kernel
theorem dX5_row_29 : decode cX5_row 29 = .ok (.iconst 3, 1) := by decide +kernel
theorem dX5_row_30 : decode cX5_row 30 = .ok (.iload_n 2, 1) := by decide +kernel
theorem dX5_row_31 : decode cX5_row 31 = .ok (.imul, 1) := by decide +kernel
theorem dX5_row_32 : decode cX5_row 32 = .ok (.iload_n 3, 1) := by decide +kernel
theorem dX5_row_33 : decode cX5_row 33 = .ok (.iadd, 1) := by decide +kernel
theorem dX5_row_34 : decode cX5_row 34 = .ok (.laload, 1) := by decide +kernel
theorem dX5_row_35 : decode cX5_row 35 = .ok (.lreturn, 1) := by decide +kernel
set_option maxRecDepth 20000 in
theorem ggX5_determinant_X5_at : GoodIn wsX5_determinant wsX5_at := goodIn_r _ [4] (by decide +kernel) (by decide +kernel)
set_option maxRecDepth 20000 in
theorem gX5_determinant_X5_at : GoodIn wsX5_determinant (va_wsS RX5 144 yX5_at wsX5_at) := goodIn_app (goodIn_of _ (by decide +kernel)) ggX5_determinant_X5_at
theorem dX5_determinant_0 : decode cX5_determinant 0 = .ok (.lconst 0, 1) := by decide +kernel
theorem dX5_determinant_1 : decode cX5_determinant 1 = .ok (.lstore 4, 2) := by decide +kernel
theorem dX5_determinant_3 : decode cX5_determinant 3 = .ok (.iconst 0, 1) := by decide +kernel
theorem dX5_determinant_4 : decode cX5_determinant 4 = .ok (.istore 6, 2) := by decide +kernel
theorem dX5_determinant_6 : decode cX5_determinant 6 = .ok (.iload 6, 2) := by decide +kernel
theorem dX5_determinant_8 : decode cX5_determinant 8 = .ok (.iconst 3, 1) := by decide +kernel
theorem dX5_determinant_9 : decode cX5_determinant 9 = .ok (.if_icmp .ge 83, 3) := by decide +kernel
theorem dX5_determinant_12 : decode cX5_determinant 12 = .ok (.iload 6, 2) := by decide +kernel
theorem dX5_determinant_14 : decode cX5_determinant 14 = .ok (.iconst 1, 1) := by decide +kernel
theorem dX5_determinant_15 : decode cX5_determinant 15 = .ok (.iadd, 1) := by decide +kernel
theorem dX5_determinant_16 : decode cX5_determinant 16 = .ok (.iconst 3, 1) := by decide +kernel
theorem dX5_determinant_17 : decode cX5_determinant 17 = .ok (.irem, 1) := by decide +kernel
theorem dX5_determinant_18 : decode cX5_determinant 18 = .ok (.istore 7, 2) := by decide +kernel
theorem dX5_determinant_20 : decode cX5_determinant 20 = .ok (.iload 6, 2) := by decide +kernel
theorem dX5_determinant_22 : decode cX5_determinant 22 = .ok (.iconst 2, 1) := by decide +kernel
theorem dX5_determinant_23 : decode cX5_determinant 23 = .ok (.iadd, 1) := by decide +kernel
theorem dX5_determinant_24 : decode cX5_determinant 24 = .ok (.iconst 3, 1) := by decide +kernel
theorem dX5_determinant_25 : decode cX5_determinant 25 = .ok (.irem, 1) := by decide +kernel
theorem dX5_determinant_26 : decode cX5_determinant 26 = .ok (.istore 8, 2) := by decide +kernel
theorem dX5_determinant_28 : decode cX5_determinant 28 = .ok (.aload_n 1, 1) := by decide +kernel
theorem dX5_determinant_29 : decode cX5_determinant 29 = .ok (.iload_n 2, 1) := by decide +kernel
theorem dX5_determinant_30 : decode cX5_determinant 30 = .ok (.aload_n 3, 1) := by decide +kernel
theorem dX5_determinant_31 : decode cX5_determinant 31 = .ok (.iconst 1, 1) := by decide +kernel
theorem dX5_determinant_32 : decode cX5_determinant 32 = .ok (.iload 7, 2) := by decide +kernel
theorem dX5_determinant_34 : decode cX5_determinant 34 = .ok (.invokestatic 144, 3) := by decide +kernel
theorem dX5_determinant_37 : decode cX5_determinant 37 = .ok (.aload_n 1, 1) := by decide +kernel
theorem dX5_determinant_38 : decode cX5_determinant 38 = .ok (.iload_n 2, 1) := by decide +kernel
theorem dX5_determinant_39 : decode cX5_determinant 39 = .ok (.aload_n 3, 1) := by decide +kernel
theorem dX5_determinant_40 : decode cX5_determinant 40 = .ok (.iconst 2, 1) := by decide +kernel
theorem dX5_determinant_41 : decode cX5_determinant 41 = .ok (.iload 8, 2) := by decide +kernel
theorem dX5_determinant_43 : decode cX5_determinant 43 = .ok (.invokestatic 144, 3) := by decide +kernel
theorem dX5_determinant_46 : decode cX5_determinant 46 = .ok (.lmul, 1) := by decide +kernel
theorem dX5_determinant_47 : decode cX5_determinant 47 = .ok (.aload_n 1, 1) := by decide +kernel
theorem dX5_determinant_48 : decode cX5_determinant 48 = .ok (.iload_n 2, 1) := by decide +kernel
theorem dX5_determinant_49 : decode cX5_determinant 49 = .ok (.aload_n 3, 1) := by decide +kernel
theorem dX5_determinant_50 : decode cX5_determinant 50 = .ok (.iconst 1, 1) := by decide +kernel
theorem dX5_determinant_51 : decode cX5_determinant 51 = .ok (.iload 8, 2) := by decide +kernel
theorem dX5_determinant_53 : decode cX5_determinant 53 = .ok (.invokestatic 144, 3) := by decide +kernel
theorem dX5_determinant_56 : decode cX5_determinant 56 = .ok (.aload_n 1, 1) := by decide +kernel
theorem dX5_determinant_57 : decode cX5_determinant 57 = .ok (.iload_n 2, 1) := by decide +kernel
theorem dX5_determinant_58 : decode cX5_determinant 58 = .ok (.aload_n 3, 1) := by decide +kernel
theorem dX5_determinant_59 : decode cX5_determinant 59 = .ok (.iconst 2, 1) := by decide +kernel
theorem dX5_determinant_60 : decode cX5_determinant 60 = .ok (.iload 7, 2) := by decide +kernel
theorem dX5_determinant_62 : decode cX5_determinant 62 = .ok (.invokestatic 144, 3) := by decide +kernel
theorem dX5_determinant_65 : decode cX5_determinant 65 = .ok (.lmul, 1) := by decide +kernel
theorem dX5_determinant_66 : decode cX5_determinant 66 = .ok (.lsub, 1) := by decide +kernel
theorem dX5_determinant_67 : decode cX5_determinant 67 = .ok (.lstore 9, 2) := by decide +kernel
theorem dX5_determinant_69 : decode cX5_determinant 69 = .ok (.lload 4, 2) := by decide +kernel
theorem dX5_determinant_71 : decode cX5_determinant 71 = .ok (.aload_n 1, 1) := by decide +kernel
theorem dX5_determinant_72 : decode cX5_determinant 72 = .ok (.iload_n 2, 1) := by decide +kernel
theorem dX5_determinant_73 : decode cX5_determinant 73 = .ok (.aload_n 3, 1) := by decide +kernel
theorem dX5_determinant_74 : decode cX5_determinant 74 = .ok (.iconst 0, 1) := by decide +kernel
theorem dX5_determinant_75 : decode cX5_determinant 75 = .ok (.iload 6, 2) := by decide +kernel
theorem dX5_determinant_77 : decode cX5_determinant 77 = .ok (.invokestatic 144, 3) := by decide +kernel
theorem dX5_determinant_80 : decode cX5_determinant 80 = .ok (.lload 9, 2) := by decide +kernel
theorem dX5_determinant_82 : decode cX5_determinant 82 = .ok (.lmul, 1) := by decide +kernel
theorem dX5_determinant_83 : decode cX5_determinant 83 = .ok (.ladd, 1) := by decide +kernel
theorem dX5_determinant_84 : decode cX5_determinant 84 = .ok (.lstore 4, 2) := by decide +kernel
theorem dX5_determinant_86 : decode cX5_determinant 86 = .ok (.iinc 6 1, 3) := by decide +kernel
theorem dX5_determinant_89 : decode cX5_determinant 89 = .ok (.goto (-83), 3) := by decide +kernel
theorem dX5_determinant_92 : decode cX5_determinant 92 = .ok (.lload 4, 2) := by decide +kernel
theorem dX5_determinant_94 : decode cX5_determinant 94 = .ok (.lreturn, 1) := by decide +kernel
theorem dX5_at_0 : decode cX5_at 0 = .ok (.iload_n 3, 1) := by decide +kernel
theorem dX5_at_1 : decode cX5_at 1 = .ok (.iload_n 1, 1) := by decide +kernel
theorem dX5_at_2 : decode cX5_at 2 = .ok (.if_icmp .ne 10, 3) := by decide +kernel
theorem dX5_at_5 : decode cX5_at 5 = .ok (.aload_n 2, 1) := by decide +kernel
theorem dX5_at_6 : decode cX5_at 6 = .ok (.iload 4, 2) := by decide +kernel
theorem dX5_at_8 : decode cX5_at 8 = .ok (.laload, 1) := by decide +kernel
theorem dX5_at_9 : decode cX5_at 9 = .ok (.goto 11, 3) := by decide +kernel
theorem dX5_at_12 : decode cX5_at 12 = .ok (.aload_n 0, 1) := by decide +kernel
theorem dX5_at_13 : decode cX5_at 13 = .ok (.iconst 3, 1) := by decide +kernel
theorem dX5_at_14 : decode cX5_at 14 = .ok (.iload_n 3, 1) := by decide +kernel
theorem dX5_at_15 : decode cX5_at 15 = .ok (.imul, 1) := by decide +kernel
theorem dX5_at_16 : decode cX5_at 16 = .ok (.iload 4, 2) := by decide +kernel
theorem dX5_at_18 : decode cX5_at 18 = .ok (.iadd, 1) := by decide +kernel
theorem dX5_at_19 : decode cX5_at 19 = .ok (.laload, 1) := by decide +kernel
theorem dX5_at_20 : decode cX5_at 20 = .ok (.lreturn, 1) := by decide +kernel
set_option maxRecDepth 20000 in
theorem ggX5_areTwo_X5_isPlace : GoodIn wsX5_areTwo wsX5_isPlace := goodIn_r _ [6, 7, 8, 9, 5, 10, 11, 12, 13, 14, 15, 16, 17, 18, 19, 20, 21, 22, 23, 24, 25, 26, 27, 28, 29, 30, 31, 32, 33, 34, 35, 36, 37] (by decide +kernel) (by decide +kernel)
set_option maxRecDepth 20000 in
theorem gX5_areTwo_X5_isPlace : GoodIn wsX5_areTwo (wsV RX5 113 RX5 yX5_isPlace wsX5_isPlace) := goodIn_app (goodIn_of _ (by decide +kernel)) ggX5_areTwo_X5_isPlace
theorem dX5_areTwo_0 : decode cX5_areTwo 0 = .ok (.iconst 0, 1) := by decide +kernel
theorem dX5_areTwo_1 : decode cX5_areTwo 1 = .ok (.istore_n 1, 1) := by decide +kernel
theorem dX5_areTwo_2 : decode cX5_areTwo 2 = .ok (.iconst 0, 1) := by decide +kernel
theorem dX5_areTwo_3 : decode cX5_areTwo 3 = .ok (.istore_n 2, 1) := by decide +kernel
theorem dX5_areTwo_4 : decode cX5_areTwo 4 = .ok (.iload_n 2, 1) := by decide +kernel
theorem dX5_areTwo_5 : decode cX5_areTwo 5 = .ok (.bipush 81, 2) := by decide +kernel
theorem dX5_areTwo_7 : decode cX5_areTwo 7 = .ok (.if_icmp .ge 141, 3) := by decide +kernel
theorem dX5_areTwo_10 : decode cX5_areTwo 10 = .ok (.iload_n 2, 1) := by decide +kernel
theorem dX5_areTwo_11 : decode cX5_areTwo 11 = .ok (.bipush 9, 2) := by decide +kernel
theorem dX5_areTwo_13 : decode cX5_areTwo 13 = .ok (.idiv, 1) := by decide +kernel
theorem dX5_areTwo_14 : decode cX5_areTwo 14 = .ok (.iconst 3, 1) := by decide +kernel
theorem dX5_areTwo_15 : decode cX5_areTwo 15 = .ok (.irem, 1) := by decide +kernel
theorem dX5_areTwo_16 : decode cX5_areTwo 16 = .ok (.istore_n 3, 1) := by decide +kernel
theorem dX5_areTwo_17 : decode cX5_areTwo 17 = .ok (.iload_n 2, 1) := by decide +kernel
theorem dX5_areTwo_18 : decode cX5_areTwo 18 = .ok (.bipush 27, 2) := by decide +kernel
theorem dX5_areTwo_20 : decode cX5_areTwo 20 = .ok (.idiv, 1) := by decide +kernel
theorem dX5_areTwo_21 : decode cX5_areTwo 21 = .ok (.istore 4, 2) := by decide +kernel
theorem dX5_areTwo_23 : decode cX5_areTwo 23 = .ok (.iload_n 2, 1) := by decide +kernel
theorem dX5_areTwo_24 : decode cX5_areTwo 24 = .ok (.iconst 3, 1) := by decide +kernel
theorem dX5_areTwo_25 : decode cX5_areTwo 25 = .ok (.irem, 1) := by decide +kernel
theorem dX5_areTwo_26 : decode cX5_areTwo 26 = .ok (.istore 5, 2) := by decide +kernel
theorem dX5_areTwo_28 : decode cX5_areTwo 28 = .ok (.iload_n 2, 1) := by decide +kernel
theorem dX5_areTwo_29 : decode cX5_areTwo 29 = .ok (.iconst 3, 1) := by decide +kernel
theorem dX5_areTwo_30 : decode cX5_areTwo 30 = .ok (.idiv, 1) := by decide +kernel
theorem dX5_areTwo_31 : decode cX5_areTwo 31 = .ok (.iconst 3, 1) := by decide +kernel
theorem dX5_areTwo_32 : decode cX5_areTwo 32 = .ok (.irem, 1) := by decide +kernel
theorem dX5_areTwo_33 : decode cX5_areTwo 33 = .ok (.istore 6, 2) := by decide +kernel
theorem dX5_areTwo_35 : decode cX5_areTwo 35 = .ok (.iload_n 3, 1) := by decide +kernel
theorem dX5_areTwo_36 : decode cX5_areTwo 36 = .ok (.iload 4, 2) := by decide +kernel
theorem dX5_areTwo_38 : decode cX5_areTwo 38 = .ok (.if_icmp .ge 34, 3) := by decide +kernel
theorem dX5_areTwo_41 : decode cX5_areTwo 41 = .ok (.aload_n 0, 1) := by decide +kernel
theorem dX5_areTwo_42 : decode cX5_areTwo 42 = .ok (.iload 4, 2) := by decide +kernel
theorem dX5_areTwo_44 : decode cX5_areTwo 44 = .ok (.invokevirtual 113, 3) := by decide +kernel
theorem dX5_areTwo_47 : decode cX5_areTwo 47 = .ok (.ifCond .eq 25, 3) := by decide +kernel
theorem dX5_areTwo_50 : decode cX5_areTwo 50 = .ok (.aload_n 0, 1) := by decide +kernel
theorem dX5_areTwo_51 : decode cX5_areTwo 51 = .ok (.iload 5, 2) := by decide +kernel
theorem dX5_areTwo_53 : decode cX5_areTwo 53 = .ok (.invokevirtual 113, 3) := by decide +kernel
theorem dX5_areTwo_56 : decode cX5_areTwo 56 = .ok (.ifCond .eq 16, 3) := by decide +kernel
theorem dX5_areTwo_59 : decode cX5_areTwo 59 = .ok (.aload_n 0, 1) := by decide +kernel
theorem dX5_areTwo_60 : decode cX5_areTwo 60 = .ok (.iload 6, 2) := by decide +kernel
theorem dX5_areTwo_62 : decode cX5_areTwo 62 = .ok (.invokevirtual 113, 3) := by decide +kernel
theorem dX5_areTwo_65 : decode cX5_areTwo 65 = .ok (.ifCond .eq 7, 3) := by decide +kernel
theorem dX5_areTwo_68 : decode cX5_areTwo 68 = .ok (.iconst 1, 1) := by decide +kernel
theorem dX5_areTwo_69 : decode cX5_areTwo 69 = .ok (.goto 4, 3) := by decide +kernel
theorem dX5_areTwo_72 : decode cX5_areTwo 72 = .ok (.iconst 0, 1) := by decide +kernel
theorem dX5_areTwo_73 : decode cX5_areTwo 73 = .ok (.istore 7, 2) := by decide +kernel
theorem dX5_areTwo_75 : decode cX5_areTwo 75 = .ok (.iload_n 1, 1) := by decide +kernel
theorem dX5_areTwo_76 : decode cX5_areTwo 76 = .ok (.ifCond .ne 60, 3) := by decide +kernel
theorem dX5_areTwo_79 : decode cX5_areTwo 79 = .ok (.iload 7, 2) := by decide +kernel
theorem dX5_areTwo_81 : decode cX5_areTwo 81 = .ok (.ifCond .eq 59, 3) := by decide +kernel
theorem dX5_areTwo_84 : decode cX5_areTwo 84 = .ok (.aload_n 0, 1) := by decide +kernel
theorem dX5_areTwo_85 : decode cX5_areTwo 85 = .ok (.getfield 33, 3) := by decide +kernel
theorem dX5_areTwo_88 : decode cX5_areTwo 88 = .ok (.iconst 3, 1) := by decide +kernel
theorem dX5_areTwo_89 : decode cX5_areTwo 89 = .ok (.iload_n 3, 1) := by decide +kernel
theorem dX5_areTwo_90 : decode cX5_areTwo 90 = .ok (.imul, 1) := by decide +kernel
theorem dX5_areTwo_91 : decode cX5_areTwo 91 = .ok (.iload 5, 2) := by decide +kernel
theorem dX5_areTwo_93 : decode cX5_areTwo 93 = .ok (.iadd, 1) := by decide +kernel
theorem dX5_areTwo_94 : decode cX5_areTwo 94 = .ok (.laload, 1) := by decide +kernel
theorem dX5_areTwo_95 : decode cX5_areTwo 95 = .ok (.aload_n 0, 1) := by decide +kernel
theorem dX5_areTwo_96 : decode cX5_areTwo 96 = .ok (.getfield 33, 3) := by decide +kernel
theorem dX5_areTwo_99 : decode cX5_areTwo 99 = .ok (.iconst 3, 1) := by decide +kernel
theorem dX5_areTwo_100 : decode cX5_areTwo 100 = .ok (.iload 4, 2) := by decide +kernel
theorem dX5_areTwo_102 : decode cX5_areTwo 102 = .ok (.imul, 1) := by decide +kernel
theorem dX5_areTwo_103 : decode cX5_areTwo 103 = .ok (.iload 6, 2) := by decide +kernel
theorem dX5_areTwo_105 : decode cX5_areTwo 105 = .ok (.iadd, 1) := by decide +kernel
theorem dX5_areTwo_106 : decode cX5_areTwo 106 = .ok (.laload, 1) := by decide +kernel
theorem dX5_areTwo_107 : decode cX5_areTwo 107 = .ok (.lmul, 1) := by decide +kernel
theorem dX5_areTwo_108 : decode cX5_areTwo 108 = .ok (.aload_n 0, 1) := by decide +kernel
theorem dX5_areTwo_109 : decode cX5_areTwo 109 = .ok (.getfield 33, 3) := by decide +kernel
theorem dX5_areTwo_112 : decode cX5_areTwo 112 = .ok (.iconst 3, 1) := by decide +kernel
theorem dX5_areTwo_113 : decode cX5_areTwo 113 = .ok (.iload_n 3, 1) := by decide +kernel
theorem dX5_areTwo_114 : decode cX5_areTwo 114 = .ok (.imul, 1) := by decide +kernel
theorem dX5_areTwo_115 : decode cX5_areTwo 115 = .ok (.iload 6, 2) := by decide +kernel
theorem dX5_areTwo_117 : decode cX5_areTwo 117 = .ok (.iadd, 1) := by decide +kernel
theorem dX5_areTwo_118 : decode cX5_areTwo 118 = .ok (.laload, 1) := by decide +kernel
theorem dX5_areTwo_119 : decode cX5_areTwo 119 = .ok (.aload_n 0, 1) := by decide +kernel
theorem dX5_areTwo_120 : decode cX5_areTwo 120 = .ok (.getfield 33, 3) := by decide +kernel
theorem dX5_areTwo_123 : decode cX5_areTwo 123 = .ok (.iconst 3, 1) := by decide +kernel
theorem dX5_areTwo_124 : decode cX5_areTwo 124 = .ok (.iload 4, 2) := by decide +kernel
theorem dX5_areTwo_126 : decode cX5_areTwo 126 = .ok (.imul, 1) := by decide +kernel
theorem dX5_areTwo_127 : decode cX5_areTwo 127 = .ok (.iload 5, 2) := by decide +kernel
theorem dX5_areTwo_129 : decode cX5_areTwo 129 = .ok (.iadd, 1) := by decide +kernel
theorem dX5_areTwo_130 : decode cX5_areTwo 130 = .ok (.laload, 1) := by decide +kernel
theorem dX5_areTwo_131 : decode cX5_areTwo 131 = .ok (.lmul, 1) := by decide +kernel
theorem dX5_areTwo_132 : decode cX5_areTwo 132 = .ok (.lcmp, 1) := by decide +kernel
theorem dX5_areTwo_133 : decode cX5_areTwo 133 = .ok (.ifCond .eq 7, 3) := by decide +kernel
theorem dX5_areTwo_136 : decode cX5_areTwo 136 = .ok (.iconst 1, 1) := by decide +kernel
theorem dX5_areTwo_137 : decode cX5_areTwo 137 = .ok (.goto 4, 3) := by decide +kernel
theorem dX5_areTwo_140 : decode cX5_areTwo 140 = .ok (.iconst 0, 1) := by decide +kernel
theorem dX5_areTwo_141 : decode cX5_areTwo 141 = .ok (.istore_n 1, 1) := by decide +kernel
theorem dX5_areTwo_142 : decode cX5_areTwo 142 = .ok (.iinc 2 1, 3) := by decide +kernel
theorem dX5_areTwo_145 : decode cX5_areTwo 145 = .ok (.goto (-141), 3) := by decide +kernel
theorem dX5_areTwo_148 : decode cX5_areTwo 148 = .ok (.iload_n 1, 1) := by decide +kernel
theorem dX5_areTwo_149 : decode cX5_areTwo 149 = .ok (.ireturn, 1) := by decide +kernel
set_option maxRecDepth 20000 in
theorem ggX5_isAny_X5_isPlace : GoodIn wsX5_isAny wsX5_isPlace := goodIn_r _ [6, 7, 8, 9, 5, 10, 11, 12, 13, 14, 15, 16, 17, 18, 19, 20, 21, 22, 23, 24, 25, 26, 27, 28, 29, 30, 31, 32, 33, 34, 35, 36, 37] (by decide +kernel) (by decide +kernel)
set_option maxRecDepth 20000 in
theorem gX5_isAny_X5_isPlace : GoodIn wsX5_isAny (wsV RX5 113 RX5 yX5_isPlace wsX5_isPlace) := goodIn_app (goodIn_of _ (by decide +kernel)) ggX5_isAny_X5_isPlace
theorem dX5_isAny_0 : decode cX5_isAny 0 = .ok (.iconst 0, 1) := by decide +kernel
theorem dX5_isAny_1 : decode cX5_isAny 1 = .ok (.istore_n 1, 1) := by decide +kernel
theorem dX5_isAny_2 : decode cX5_isAny 2 = .ok (.iconst 0, 1) := by decide +kernel
theorem dX5_isAny_3 : decode cX5_isAny 3 = .ok (.istore_n 2, 1) := by decide +kernel
theorem dX5_isAny_4 : decode cX5_isAny 4 = .ok (.iload_n 2, 1) := by decide +kernel
theorem dX5_isAny_5 : decode cX5_isAny 5 = .ok (.bipush 9, 2) := by decide +kernel
theorem dX5_isAny_7 : decode cX5_isAny 7 = .ok (.if_icmp .ge 50, 3) := by decide +kernel
theorem dX5_isAny_10 : decode cX5_isAny 10 = .ok (.iload_n 1, 1) := by decide +kernel
theorem dX5_isAny_11 : decode cX5_isAny 11 = .ok (.ifCond .ne 34, 3) := by decide +kernel
theorem dX5_isAny_14 : decode cX5_isAny 14 = .ok (.aload_n 0, 1) := by decide +kernel
theorem dX5_isAny_15 : decode cX5_isAny 15 = .ok (.iload_n 2, 1) := by decide +kernel
theorem dX5_isAny_16 : decode cX5_isAny 16 = .ok (.iconst 3, 1) := by decide +kernel
theorem dX5_isAny_17 : decode cX5_isAny 17 = .ok (.idiv, 1) := by decide +kernel
theorem dX5_isAny_18 : decode cX5_isAny 18 = .ok (.invokevirtual 113, 3) := by decide +kernel
theorem dX5_isAny_21 : decode cX5_isAny 21 = .ok (.ifCond .eq 28, 3) := by decide +kernel
theorem dX5_isAny_24 : decode cX5_isAny 24 = .ok (.aload_n 0, 1) := by decide +kernel
theorem dX5_isAny_25 : decode cX5_isAny 25 = .ok (.iload_n 2, 1) := by decide +kernel
theorem dX5_isAny_26 : decode cX5_isAny 26 = .ok (.iconst 3, 1) := by decide +kernel
theorem dX5_isAny_27 : decode cX5_isAny 27 = .ok (.irem, 1) := by decide +kernel
theorem dX5_isAny_28 : decode cX5_isAny 28 = .ok (.invokevirtual 113, 3) := by decide +kernel
theorem dX5_isAny_31 : decode cX5_isAny 31 = .ok (.ifCond .eq 18, 3) := by decide +kernel
theorem dX5_isAny_34 : decode cX5_isAny 34 = .ok (.aload_n 0, 1) := by decide +kernel
theorem dX5_isAny_35 : decode cX5_isAny 35 = .ok (.getfield 33, 3) := by decide +kernel
theorem dX5_isAny_38 : decode cX5_isAny 38 = .ok (.iload_n 2, 1) := by decide +kernel
theorem dX5_isAny_39 : decode cX5_isAny 39 = .ok (.laload, 1) := by decide +kernel
theorem dX5_isAny_40 : decode cX5_isAny 40 = .ok (.lconst 0, 1) := by decide +kernel
theorem dX5_isAny_41 : decode cX5_isAny 41 = .ok (.lcmp, 1) := by decide +kernel
theorem dX5_isAny_42 : decode cX5_isAny 42 = .ok (.ifCond .eq 7, 3) := by decide +kernel
theorem dX5_isAny_45 : decode cX5_isAny 45 = .ok (.iconst 1, 1) := by decide +kernel
theorem dX5_isAny_46 : decode cX5_isAny 46 = .ok (.goto 4, 3) := by decide +kernel
theorem dX5_isAny_49 : decode cX5_isAny 49 = .ok (.iconst 0, 1) := by decide +kernel
theorem dX5_isAny_50 : decode cX5_isAny 50 = .ok (.istore_n 1, 1) := by decide +kernel
theorem dX5_isAny_51 : decode cX5_isAny 51 = .ok (.iinc 2 1, 3) := by decide +kernel
theorem dX5_isAny_54 : decode cX5_isAny 54 = .ok (.goto (-50), 3) := by decide +kernel
theorem dX5_isAny_57 : decode cX5_isAny 57 = .ok (.iload_n 1, 1) := by decide +kernel
theorem dX5_isAny_58 : decode cX5_isAny 58 = .ok (.ireturn, 1) := by decide +kernel
set_option maxRecDepth 20000 in
theorem ggX5_rankNow_X5_layRows : GoodIn wsX5_rankNow wsX5_layRows := goodIn_r _ [7, 2, 1, 8, 9, 10, 11, 6, 12, 13, 14, 15, 16, 17, 18, 19, 35, 36, 37, 38, 39, 40, 41, 42, 43, 44, 45, 46, 47, 48, 49, 50, 51, 52, 53, 54, 55, 56, 57, 58, 59, 60, 61] (by decide +kernel) (by decide +kernel)
set_option maxRecDepth 20000 in
theorem gX5_rankNow_X5_layRows : GoodIn wsX5_rankNow (wsV RX5 140 RX5 yX5_layRows wsX5_layRows) := goodIn_app (goodIn_of _ (by decide +kernel)) ggX5_rankNow_X5_layRows
set_option maxRecDepth 20000 in
theorem ggX5_rankNow_X5_determinant : GoodIn wsX5_rankNow wsX5_determinant := goodIn_r _ [23, 24, 25, 6, 26] (by decide +kernel) (by decide +kernel)
set_option maxRecDepth 20000 in
theorem gX5_rankNow_X5_determinant : GoodIn wsX5_rankNow (wsV RX5 148 RX5 yX5_determinant wsX5_determinant) := goodIn_app (goodIn_of _ (by decide +kernel)) ggX5_rankNow_X5_determinant
set_option maxRecDepth 20000 in
theorem ggX5_rankNow_X5_areTwo : GoodIn wsX5_rankNow wsX5_areTwo := goodIn_r _ [30, 2, 9, 10, 11, 6, 12, 1, 13, 14, 15, 35, 36, 37, 38, 39, 40, 41, 42, 43, 44, 45, 46, 47, 48, 49, 50, 51, 52, 53, 54, 55, 56, 57, 58, 59, 60, 61] (by decide +kernel) (by decide +kernel)
set_option maxRecDepth 20000 in
theorem gX5_rankNow_X5_areTwo : GoodIn wsX5_rankNow (wsV RX5 152 RX5 yX5_areTwo wsX5_areTwo) := goodIn_app (goodIn_of _ (by decide +kernel)) ggX5_rankNow_X5_areTwo
set_option maxRecDepth 20000 in
theorem ggX5_rankNow_X5_isAny : GoodIn wsX5_rankNow wsX5_isAny := goodIn_r _ [34, 2, 9, 10, 11, 6, 12, 1, 13, 14, 15, 35, 36, 37, 38, 39, 40, 41, 42, 43, 44, 45, 46, 47, 48, 49, 50, 51, 52, 53, 54, 55, 56, 57, 58, 59, 60, 61] (by decide +kernel) (by decide +kernel)
set_option maxRecDepth 20000 in
theorem gX5_rankNow_X5_isAny : GoodIn wsX5_rankNow (wsV RX5 156 RX5 yX5_isAny wsX5_isAny) := goodIn_app (goodIn_of _ (by decide +kernel)) ggX5_rankNow_X5_isAny
theorem dX5_rankNow_0 : decode cX5_rankNow 0 = .ok (.aload_n 0, 1) := by decide +kernel
theorem dX5_rankNow_1 : decode cX5_rankNow 1 = .ok (.iload_n 1, 1) := by decide +kernel
theorem dX5_rankNow_2 : decode cX5_rankNow 2 = .ok (.invokevirtual 140, 3) := by decide +kernel
theorem dX5_rankNow_5 : decode cX5_rankNow 5 = .ok (.aload_n 0, 1) := by decide +kernel
theorem dX5_rankNow_6 : decode cX5_rankNow 6 = .ok (.getfield 104, 3) := by decide +kernel
theorem dX5_rankNow_9 : decode cX5_rankNow 9 = .ok (.ifCond .le 26, 3) := by decide +kernel
theorem dX5_rankNow_12 : decode cX5_rankNow 12 = .ok (.aload_n 0, 1) := by decide +kernel
theorem dX5_rankNow_13 : decode cX5_rankNow 13 = .ok (.aload_n 0, 1) := by decide +kernel
theorem dX5_rankNow_14 : decode cX5_rankNow 14 = .ok (.getfield 33, 3) := by decide +kernel
theorem dX5_rankNow_17 : decode cX5_rankNow 17 = .ok (.iconst 3, 1) := by decide +kernel
theorem dX5_rankNow_18 : decode cX5_rankNow 18 = .ok (.aload_n 0, 1) := by decide +kernel
theorem dX5_rankNow_19 : decode cX5_rankNow 19 = .ok (.getfield 33, 3) := by decide +kernel
theorem dX5_rankNow_22 : decode cX5_rankNow 22 = .ok (.invokevirtual 148, 3) := by decide +kernel
theorem dX5_rankNow_25 : decode cX5_rankNow 25 = .ok (.lconst 0, 1) := by decide +kernel
theorem dX5_rankNow_26 : decode cX5_rankNow 26 = .ok (.lcmp, 1) := by decide +kernel
theorem dX5_rankNow_27 : decode cX5_rankNow 27 = .ok (.ifCond .eq 8, 3) := by decide +kernel
theorem dX5_rankNow_30 : decode cX5_rankNow 30 = .ok (.aload_n 0, 1) := by decide +kernel
theorem dX5_rankNow_31 : decode cX5_rankNow 31 = .ok (.getfield 104, 3) := by decide +kernel
theorem dX5_rankNow_34 : decode cX5_rankNow 34 = .ok (.ireturn, 1) := by decide +kernel
theorem dX5_rankNow_35 : decode cX5_rankNow 35 = .ok (.aload_n 0, 1) := by decide +kernel
theorem dX5_rankNow_36 : decode cX5_rankNow 36 = .ok (.getfield 104, 3) := by decide +kernel
theorem dX5_rankNow_39 : decode cX5_rankNow 39 = .ok (.iconst 2, 1) := by decide +kernel
theorem dX5_rankNow_40 : decode cX5_rankNow 40 = .ok (.if_icmp .le 14, 3) := by decide +kernel
theorem dX5_rankNow_43 : decode cX5_rankNow 43 = .ok (.aload_n 0, 1) := by decide +kernel
theorem dX5_rankNow_44 : decode cX5_rankNow 44 = .ok (.invokevirtual 152, 3) := by decide +kernel
theorem dX5_rankNow_47 : decode cX5_rankNow 47 = .ok (.ifCond .eq 7, 3) := by decide +kernel
theorem dX5_rankNow_50 : decode cX5_rankNow 50 = .ok (.iconst 2, 1) := by decide +kernel
theorem dX5_rankNow_51 : decode cX5_rankNow 51 = .ok (.goto 15, 3) := by decide +kernel
theorem dX5_rankNow_54 : decode cX5_rankNow 54 = .ok (.aload_n 0, 1) := by decide +kernel
theorem dX5_rankNow_55 : decode cX5_rankNow 55 = .ok (.invokevirtual 156, 3) := by decide +kernel
theorem dX5_rankNow_58 : decode cX5_rankNow 58 = .ok (.ifCond .eq 7, 3) := by decide +kernel
theorem dX5_rankNow_61 : decode cX5_rankNow 61 = .ok (.iconst 1, 1) := by decide +kernel
theorem dX5_rankNow_62 : decode cX5_rankNow 62 = .ok (.goto 4, 3) := by decide +kernel
theorem dX5_rankNow_65 : decode cX5_rankNow 65 = .ok (.iconst 0, 1) := by decide +kernel
theorem dX5_rankNow_66 : decode cX5_rankNow 66 = .ok (.ireturn, 1) := by decide +kernel
set_option maxRecDepth 20000 in
theorem ggX5_isFull_X5_rankNow : GoodIn wsX5_isFull wsX5_rankNow := goodIn_r _ [6, 1, 7, 8, 9, 10, 5, 11, 12, 13, 14, 15, 16, 17, 18, 19, 20, 21, 22, 23, 24, 25, 26, 27, 28, 29, 30, 31, 32, 33, 34, 35, 36, 37, 38, 39, 40, 41, 42, 43, 44, 45, 46, 47, 48, 49, 50, 51, 52, 53, 54, 55, 56, 57, 58, 59, 60, 61, 62, 63, 64, 65] (by decide +kernel) (by decide +kernel)
set_option maxRecDepth 20000 in
theorem gX5_isFull_X5_rankNow : GoodIn wsX5_isFull (wsV RX5 159 RX5 yX5_rankNow wsX5_rankNow) := goodIn_app (goodIn_of _ (by decide +kernel)) ggX5_isFull_X5_rankNow
theorem dX5_isFull_0 : decode cX5_isFull 0 = .ok (.aload_n 0, 1) := by decide +kernel
theorem dX5_isFull_1 : decode cX5_isFull 1 = .ok (.getfield 104, 3) := by decide +kernel
theorem dX5_isFull_4 : decode cX5_isFull 4 = .ok (.ifCond .le 19, 3) := by decide +kernel
theorem dX5_isFull_7 : decode cX5_isFull 7 = .ok (.aload_n 0, 1) := by decide +kernel
theorem dX5_isFull_8 : decode cX5_isFull 8 = .ok (.iload_n 1, 1) := by decide +kernel
theorem dX5_isFull_9 : decode cX5_isFull 9 = .ok (.invokevirtual 159, 3) := by decide +kernel
theorem dX5_isFull_12 : decode cX5_isFull 12 = .ok (.aload_n 0, 1) := by decide +kernel
theorem dX5_isFull_13 : decode cX5_isFull 13 = .ok (.getfield 104, 3) := by decide +kernel
theorem dX5_isFull_16 : decode cX5_isFull 16 = .ok (.if_icmp .ne 7, 3) := by decide +kernel
theorem dX5_isFull_19 : decode cX5_isFull 19 = .ok (.iconst 1, 1) := by decide +kernel
theorem dX5_isFull_20 : decode cX5_isFull 20 = .ok (.goto 4, 3) := by decide +kernel
theorem dX5_isFull_23 : decode cX5_isFull 23 = .ok (.iconst 0, 1) := by decide +kernel
theorem dX5_isFull_24 : decode cX5_isFull 24 = .ok (.ireturn, 1) := by decide +kernel
set_option maxRecDepth 20000 in
theorem ggX5_turnOn_X5_tableAt : GoodIn wsX5_turnOn wsX5_tableAt := goodIn_r _ [7, 8, 9, 10, 11, 12, 13, 14, 15, 16, 17, 18, 19, 20, 21, 22, 23, 24, 25, 26, 27, 28, 29, 30, 31, 32, 33, 34, 35] (by decide +kernel) (by decide +kernel)
set_option maxRecDepth 20000 in
theorem gX5_turnOn_X5_tableAt : GoodIn wsX5_turnOn (wsV RX5 136 RX5 yX5_tableAt wsX5_tableAt) := goodIn_app (goodIn_of _ (by decide +kernel)) ggX5_turnOn_X5_tableAt
theorem dX5_turnOn_0 : decode cX5_turnOn 0 = .ok (.iconst 0, 1) := by decide +kernel
theorem dX5_turnOn_1 : decode cX5_turnOn 1 = .ok (.istore_n 3, 1) := by decide +kernel
theorem dX5_turnOn_2 : decode cX5_turnOn 2 = .ok (.iload_n 3, 1) := by decide +kernel
theorem dX5_turnOn_3 : decode cX5_turnOn 3 = .ok (.aload_n 0, 1) := by decide +kernel
theorem dX5_turnOn_4 : decode cX5_turnOn 4 = .ok (.getfield 104, 3) := by decide +kernel
theorem dX5_turnOn_7 : decode cX5_turnOn 7 = .ok (.if_icmp .ge 57, 3) := by decide +kernel
theorem dX5_turnOn_10 : decode cX5_turnOn 10 = .ok (.aload_n 0, 1) := by decide +kernel
theorem dX5_turnOn_11 : decode cX5_turnOn 11 = .ok (.getfield 27, 3) := by decide +kernel
theorem dX5_turnOn_14 : decode cX5_turnOn 14 = .ok (.iload_n 3, 1) := by decide +kernel
theorem dX5_turnOn_15 : decode cX5_turnOn 15 = .ok (.lconst 0, 1) := by decide +kernel
theorem dX5_turnOn_16 : decode cX5_turnOn 16 = .ok (.lastore, 1) := by decide +kernel
theorem dX5_turnOn_17 : decode cX5_turnOn 17 = .ok (.iconst 0, 1) := by decide +kernel
theorem dX5_turnOn_18 : decode cX5_turnOn 18 = .ok (.istore 4, 2) := by decide +kernel
theorem dX5_turnOn_20 : decode cX5_turnOn 20 = .ok (.iload 4, 2) := by decide +kernel
theorem dX5_turnOn_22 : decode cX5_turnOn 22 = .ok (.aload_n 0, 1) := by decide +kernel
theorem dX5_turnOn_23 : decode cX5_turnOn 23 = .ok (.getfield 104, 3) := by decide +kernel
theorem dX5_turnOn_26 : decode cX5_turnOn 26 = .ok (.if_icmp .ge 32, 3) := by decide +kernel
theorem dX5_turnOn_29 : decode cX5_turnOn 29 = .ok (.aload_n 0, 1) := by decide +kernel
theorem dX5_turnOn_30 : decode cX5_turnOn 30 = .ok (.getfield 27, 3) := by decide +kernel
theorem dX5_turnOn_33 : decode cX5_turnOn 33 = .ok (.iload_n 3, 1) := by decide +kernel
theorem dX5_turnOn_34 : decode cX5_turnOn 34 = .ok (.dup2, 1) := by decide +kernel
theorem dX5_turnOn_35 : decode cX5_turnOn 35 = .ok (.laload, 1) := by decide +kernel
theorem dX5_turnOn_36 : decode cX5_turnOn 36 = .ok (.aload_n 0, 1) := by decide +kernel
theorem dX5_turnOn_37 : decode cX5_turnOn 37 = .ok (.iload_n 1, 1) := by decide +kernel
theorem dX5_turnOn_38 : decode cX5_turnOn 38 = .ok (.iload_n 3, 1) := by decide +kernel
theorem dX5_turnOn_39 : decode cX5_turnOn 39 = .ok (.iload 4, 2) := by decide +kernel
theorem dX5_turnOn_41 : decode cX5_turnOn 41 = .ok (.invokevirtual 136, 3) := by decide +kernel
theorem dX5_turnOn_44 : decode cX5_turnOn 44 = .ok (.i2l, 1) := by decide +kernel
theorem dX5_turnOn_45 : decode cX5_turnOn 45 = .ok (.aload_n 2, 1) := by decide +kernel
theorem dX5_turnOn_46 : decode cX5_turnOn 46 = .ok (.iload 4, 2) := by decide +kernel
theorem dX5_turnOn_48 : decode cX5_turnOn 48 = .ok (.laload, 1) := by decide +kernel
theorem dX5_turnOn_49 : decode cX5_turnOn 49 = .ok (.lmul, 1) := by decide +kernel
theorem dX5_turnOn_50 : decode cX5_turnOn 50 = .ok (.ladd, 1) := by decide +kernel
theorem dX5_turnOn_51 : decode cX5_turnOn 51 = .ok (.lastore, 1) := by decide +kernel
theorem dX5_turnOn_52 : decode cX5_turnOn 52 = .ok (.iinc 4 1, 3) := by decide +kernel
theorem dX5_turnOn_55 : decode cX5_turnOn 55 = .ok (.goto (-35), 3) := by decide +kernel
theorem dX5_turnOn_58 : decode cX5_turnOn 58 = .ok (.iinc 3 1, 3) := by decide +kernel
theorem dX5_turnOn_61 : decode cX5_turnOn 61 = .ok (.goto (-59), 3) := by decide +kernel
theorem dX5_turnOn_64 : decode cX5_turnOn 64 = .ok (.iconst 0, 1) := by decide +kernel
theorem dX5_turnOn_65 : decode cX5_turnOn 65 = .ok (.istore_n 3, 1) := by decide +kernel
theorem dX5_turnOn_66 : decode cX5_turnOn 66 = .ok (.iload_n 3, 1) := by decide +kernel
theorem dX5_turnOn_67 : decode cX5_turnOn 67 = .ok (.aload_n 0, 1) := by decide +kernel
theorem dX5_turnOn_68 : decode cX5_turnOn 68 = .ok (.getfield 104, 3) := by decide +kernel
theorem dX5_turnOn_71 : decode cX5_turnOn 71 = .ok (.if_icmp .ge 18, 3) := by decide +kernel
theorem dX5_turnOn_74 : decode cX5_turnOn 74 = .ok (.aload_n 2, 1) := by decide +kernel
theorem dX5_turnOn_75 : decode cX5_turnOn 75 = .ok (.iload_n 3, 1) := by decide +kernel
theorem dX5_turnOn_76 : decode cX5_turnOn 76 = .ok (.aload_n 0, 1) := by decide +kernel
theorem dX5_turnOn_77 : decode cX5_turnOn 77 = .ok (.getfield 27, 3) := by decide +kernel
theorem dX5_turnOn_80 : decode cX5_turnOn 80 = .ok (.iload_n 3, 1) := by decide +kernel
theorem dX5_turnOn_81 : decode cX5_turnOn 81 = .ok (.laload, 1) := by decide +kernel
theorem dX5_turnOn_82 : decode cX5_turnOn 82 = .ok (.lastore, 1) := by decide +kernel
theorem dX5_turnOn_83 : decode cX5_turnOn 83 = .ok (.iinc 3 1, 3) := by decide +kernel
theorem dX5_turnOn_86 : decode cX5_turnOn 86 = .ok (.goto (-20), 3) := by decide +kernel
theorem dX5_turnOn_89 : decode cX5_turnOn 89 = .ok (.return_, 1) := by decide +kernel
set_option maxRecDepth 20000 in
theorem ggX5_layInputs_X5_turnOn : GoodIn wsX5_layInputs wsX5_turnOn := goodIn_r _ [9, 2, 10, 11, 12, 13, 8, 14, 15, 23, 24, 25, 26, 27, 28, 29, 30, 31, 32, 33, 34, 35, 36, 37, 38, 39, 40, 41, 42, 43, 44, 45, 46, 47, 48, 49] (by decide +kernel) (by decide +kernel)
set_option maxRecDepth 20000 in
theorem gX5_layInputs_X5_turnOn : GoodIn wsX5_layInputs (wsV RX5 163 RX5 yX5_turnOn wsX5_turnOn) := goodIn_app (goodIn_of _ (by decide +kernel)) ggX5_layInputs_X5_turnOn
set_option maxRecDepth 20000 in
theorem ggX5_layInputs_X5_determinant : GoodIn wsX5_layInputs wsX5_determinant := goodIn_r _ [19, 20, 21, 8, 22] (by decide +kernel) (by decide +kernel)
set_option maxRecDepth 20000 in
theorem gX5_layInputs_X5_determinant : GoodIn wsX5_layInputs (wsV RX5 148 RX5 yX5_determinant wsX5_determinant) := goodIn_app (goodIn_of _ (by decide +kernel)) ggX5_layInputs_X5_determinant
theorem dX5_layInputs_0 : decode cX5_layInputs 0 = .ok (.iconst 0, 1) := by decide +kernel
theorem dX5_layInputs_1 : decode cX5_layInputs 1 = .ok (.istore_n 3, 1) := by decide +kernel
theorem dX5_layInputs_2 : decode cX5_layInputs 2 = .ok (.iload_n 3, 1) := by decide +kernel
theorem dX5_layInputs_3 : decode cX5_layInputs 3 = .ok (.iconst 3, 1) := by decide +kernel
theorem dX5_layInputs_4 : decode cX5_layInputs 4 = .ok (.if_icmp .ge 25, 3) := by decide +kernel
