theorem dX4_row_27 : decode cX4_row 27 = .ok (.iload_n 1, 1) := by decide +kernel
theorem dX4_row_28 : decode cX4_row 28 = .ok (.invokevirtual 126, 3) := by decide +kernel
theorem dX4_row_31 : decode cX4_row 31 = .ok (.getfield 130, 3) := by decide +kernel
theorem dX4_row_34 : decode cX4_row 34 = .ok (.iload_n 2, 1) := by decide +kernel
theorem dX4_row_35 : decode cX4_row 35 = .ok (.aaload, 1) := by decide +kernel
theorem dX4_row_36 : decode cX4_row 36 = .ok (.iload_n 3, 1) := by decide +kernel
theorem dX4_row_37 : decode cX4_row 37 = .ok (.laload, 1) := by decide +kernel
theorem dX4_row_38 : decode cX4_row 38 = .ok (.lreturn, 1) := by decide +kernel
set_option maxRecDepth 20000 in
theorem ggX4_about_X4_isFull : GoodIn wsX4_about wsX4_isFull := goodIn_r _ [13, 1, 2, 5, 49, 50, 51, 52, 53, 54, 55, 56, 57, 58, 59, 60, 61, 62, 63, 64, 65, 66, 67, 68, 69, 70, 71] (by decide +kernel) (by decide +kernel)
set_option maxRecDepth 20000 in
theorem gX4_about_X4_isFull : GoodIn wsX4_about (wsV RX4 137 RX4 yX4_isFull wsX4_isFull) := goodIn_app (goodIn_of _ (by decide +kernel)) ggX4_about_X4_isFull
set_option maxRecDepth 20000 in
theorem ggX4_about_X4_canRest : GoodIn wsX4_about wsX4_canRest := goodIn_r _ [17, 7, 18, 1, 2, 4, 5, 19, 20, 12, 21, 22, 23, 24, 25, 26, 27, 28, 29, 30, 31, 32, 33, 34, 35, 36, 37, 38, 39, 40, 41, 42, 43, 44, 49, 50, 51, 52, 53, 54, 55, 56, 57, 58, 59, 60, 61, 62, 63, 64, 65, 66, 67, 68, 69, 70, 71] (by decide +kernel) (by decide +kernel)
set_option maxRecDepth 20000 in
theorem gX4_about_X4_canRest : GoodIn wsX4_about (wsV RX4 141 RX4 yX4_canRest wsX4_canRest) := goodIn_app (goodIn_of _ (by decide +kernel)) ggX4_about_X4_canRest
set_option maxRecDepth 20000 in
theorem ggX4_about_X3_seen : GoodIn wsX4_about wsX3_seen := goodIn_r _ [48, 32, 61, 62, 63] (by decide +kernel) (by decide +kernel)
set_option maxRecDepth 20000 in
theorem gX4_about_X3_seen : GoodIn wsX4_about (wsV RX4 122 RX3 yX3_seen wsX3_seen) := goodIn_app (goodIn_of _ (by decide +kernel)) ggX4_about_X3_seen
theorem dX4_about_0 : decode cX4_about 0 = .ok (.aload_n 0, 1) := by decide +kernel
theorem dX4_about_1 : decode cX4_about 1 = .ok (.getfield 19, 3) := by decide +kernel
theorem dX4_about_4 : decode cX4_about 4 = .ok (.getfield 94, 3) := by decide +kernel
theorem dX4_about_7 : decode cX4_about 7 = .ok (.ifCond .ne 7, 3) := by decide +kernel
theorem dX4_about_10 : decode cX4_about 10 = .ok (.ldc2_w 85, 3) := by decide +kernel
theorem dX4_about_13 : decode cX4_about 13 = .ok (.lreturn, 1) := by decide +kernel
theorem dX4_about_14 : decode cX4_about 14 = .ok (.iload_n 1, 1) := by decide +kernel
theorem dX4_about_15 : decode cX4_about 15 = .ok (.tableswitch 114 0 5 #[37, 46, 55, 72, 89, 102], 37) := by decide +kernel
theorem dX4_about_52 : decode cX4_about 52 = .ok (.aload_n 0, 1) := by decide +kernel
theorem dX4_about_53 : decode cX4_about 53 = .ok (.getfield 28, 3) := by decide +kernel
theorem dX4_about_56 : decode cX4_about 56 = .ok (.getfield 134, 3) := by decide +kernel
theorem dX4_about_59 : decode cX4_about 59 = .ok (.i2l, 1) := by decide +kernel
theorem dX4_about_60 : decode cX4_about 60 = .ok (.lreturn, 1) := by decide +kernel
theorem dX4_about_61 : decode cX4_about 61 = .ok (.aload_n 0, 1) := by decide +kernel
theorem dX4_about_62 : decode cX4_about 62 = .ok (.getfield 32, 3) := by decide +kernel
theorem dX4_about_65 : decode cX4_about 65 = .ok (.getfield 134, 3) := by decide +kernel
theorem dX4_about_68 : decode cX4_about 68 = .ok (.i2l, 1) := by decide +kernel
theorem dX4_about_69 : decode cX4_about 69 = .ok (.lreturn, 1) := by decide +kernel
theorem dX4_about_70 : decode cX4_about 70 = .ok (.aload_n 0, 1) := by decide +kernel
theorem dX4_about_71 : decode cX4_about 71 = .ok (.aload_n 0, 1) := by decide +kernel
theorem dX4_about_72 : decode cX4_about 72 = .ok (.getfield 28, 3) := by decide +kernel
theorem dX4_about_75 : decode cX4_about 75 = .ok (.invokevirtual 137, 3) := by decide +kernel
theorem dX4_about_78 : decode cX4_about 78 = .ok (.ifCond .eq 7, 3) := by decide +kernel
theorem dX4_about_81 : decode cX4_about 81 = .ok (.lconst 1, 1) := by decide +kernel
theorem dX4_about_82 : decode cX4_about 82 = .ok (.goto 4, 3) := by decide +kernel
theorem dX4_about_85 : decode cX4_about 85 = .ok (.lconst 0, 1) := by decide +kernel
theorem dX4_about_86 : decode cX4_about 86 = .ok (.lreturn, 1) := by decide +kernel
theorem dX4_about_87 : decode cX4_about 87 = .ok (.aload_n 0, 1) := by decide +kernel
theorem dX4_about_88 : decode cX4_about 88 = .ok (.aload_n 0, 1) := by decide +kernel
theorem dX4_about_89 : decode cX4_about 89 = .ok (.getfield 32, 3) := by decide +kernel
theorem dX4_about_92 : decode cX4_about 92 = .ok (.invokevirtual 137, 3) := by decide +kernel
theorem dX4_about_95 : decode cX4_about 95 = .ok (.ifCond .eq 7, 3) := by decide +kernel
theorem dX4_about_98 : decode cX4_about 98 = .ok (.lconst 1, 1) := by decide +kernel
theorem dX4_about_99 : decode cX4_about 99 = .ok (.goto 4, 3) := by decide +kernel
theorem dX4_about_102 : decode cX4_about 102 = .ok (.lconst 0, 1) := by decide +kernel
theorem dX4_about_103 : decode cX4_about 103 = .ok (.lreturn, 1) := by decide +kernel
theorem dX4_about_104 : decode cX4_about 104 = .ok (.aload_n 0, 1) := by decide +kernel
theorem dX4_about_105 : decode cX4_about 105 = .ok (.invokevirtual 141, 3) := by decide +kernel
theorem dX4_about_108 : decode cX4_about 108 = .ok (.ifCond .eq 7, 3) := by decide +kernel
theorem dX4_about_111 : decode cX4_about 111 = .ok (.lconst 1, 1) := by decide +kernel
theorem dX4_about_112 : decode cX4_about 112 = .ok (.goto 4, 3) := by decide +kernel
theorem dX4_about_115 : decode cX4_about 115 = .ok (.lconst 0, 1) := by decide +kernel
theorem dX4_about_116 : decode cX4_about 116 = .ok (.lreturn, 1) := by decide +kernel
theorem dX4_about_117 : decode cX4_about 117 = .ok (.aload_n 0, 1) := by decide +kernel
theorem dX4_about_118 : decode cX4_about 118 = .ok (.getfield 19, 3) := by decide +kernel
theorem dX4_about_121 : decode cX4_about 121 = .ok (.aload_n 0, 1) := by decide +kernel
theorem dX4_about_122 : decode cX4_about 122 = .ok (.getfield 42, 3) := by decide +kernel
theorem dX4_about_125 : decode cX4_about 125 = .ok (.invokevirtual 122, 3) := by decide +kernel
theorem dX4_about_128 : decode cX4_about 128 = .ok (.lreturn, 1) := by decide +kernel
theorem dX4_about_129 : decode cX4_about 129 = .ok (.ldc2_w 66, 3) := by decide +kernel
theorem dX4_about_132 : decode cX4_about 132 = .ok (.lreturn, 1) := by decide +kernel
set_option maxRecDepth 20000 in
theorem ggX4_gain_X3_hasPlace : GoodIn wsX4_gain wsX3_hasPlace := goodIn_r _ [11, 12, 62, 63, 64] (by decide +kernel) (by decide +kernel)
set_option maxRecDepth 20000 in
theorem gX4_gain_X3_hasPlace : GoodIn wsX4_gain (wsV RX4 107 RX3 yX3_hasPlace wsX3_hasPlace) := goodIn_app (goodIn_of _ (by decide +kernel)) ggX4_gain_X3_hasPlace
set_option maxRecDepth 20000 in
theorem ggX4_gain_X4_isPart : GoodIn wsX4_gain wsX4_isPart := goodIn_r _ [16] (by decide +kernel) (by decide +kernel)
set_option maxRecDepth 20000 in
theorem gX4_gain_X4_isPart : GoodIn wsX4_gain (va_wsS RX4 144 yX4_isPart wsX4_isPart) := goodIn_app (goodIn_of _ (by decide +kernel)) ggX4_gain_X4_isPart
set_option maxRecDepth 20000 in
theorem ggX4_gain_X4_chain : GoodIn wsX4_gain wsX4_chain := goodIn_r _ [20, 21, 22, 42, 43, 44, 45, 46, 47, 48, 49, 50, 51, 52, 53] (by decide +kernel) (by decide +kernel)
set_option maxRecDepth 20000 in
theorem gX4_gain_X4_chain : GoodIn wsX4_gain (wsV RX4 126 RX4 yX4_chain wsX4_chain) := goodIn_app (goodIn_of _ (by decide +kernel)) ggX4_gain_X4_chain
set_option maxRecDepth 20000 in
theorem ggX4_gain_X4_isFull : GoodIn wsX4_gain wsX4_isFull := goodIn_r _ [26, 1, 27, 28, 42, 43, 44, 45, 46, 47, 48, 49, 50, 51, 52, 53, 62, 63, 64, 54, 55, 56, 57, 58, 59, 60, 61] (by decide +kernel) (by decide +kernel)
set_option maxRecDepth 20000 in
theorem gX4_gain_X4_isFull : GoodIn wsX4_gain (wsV RX4 137 RX4 yX4_isFull wsX4_isFull) := goodIn_app (goodIn_of _ (by decide +kernel)) ggX4_gain_X4_isFull
set_option maxRecDepth 20000 in
theorem ggX4_gain_X4_fraction : GoodIn wsX4_gain wsX4_fraction := goodIn_r _ [31, 32, 33, 34, 35, 36, 37, 15, 38, 39, 40, 41] (by decide +kernel) (by decide +kernel)
set_option maxRecDepth 20000 in
theorem gX4_gain_X4_fraction : GoodIn wsX4_gain (va_wsS RX4 154 yX4_fraction wsX4_fraction) := goodIn_app (goodIn_of _ (by decide +kernel)) ggX4_gain_X4_fraction
theorem dX4_gain_0 : decode cX4_gain 0 = .ok (.aload_n 0, 1) := by decide +kernel
theorem dX4_gain_1 : decode cX4_gain 1 = .ok (.getfield 19, 3) := by decide +kernel
theorem dX4_gain_4 : decode cX4_gain 4 = .ok (.iload_n 2, 1) := by decide +kernel
theorem dX4_gain_5 : decode cX4_gain 5 = .ok (.invokevirtual 107, 3) := by decide +kernel
theorem dX4_gain_8 : decode cX4_gain 8 = .ok (.ifCond .ne 7, 3) := by decide +kernel
theorem dX4_gain_11 : decode cX4_gain 11 = .ok (.ldc2_w 101, 3) := by decide +kernel
theorem dX4_gain_14 : decode cX4_gain 14 = .ok (.lreturn, 1) := by decide +kernel
theorem dX4_gain_15 : decode cX4_gain 15 = .ok (.iload_n 3, 1) := by decide +kernel
theorem dX4_gain_16 : decode cX4_gain 16 = .ok (.invokestatic 144, 3) := by decide +kernel
theorem dX4_gain_19 : decode cX4_gain 19 = .ok (.ifCond .ne 7, 3) := by decide +kernel
theorem dX4_gain_22 : decode cX4_gain 22 = .ok (.ldc2_w 66, 3) := by decide +kernel
theorem dX4_gain_25 : decode cX4_gain 25 = .ok (.lreturn, 1) := by decide +kernel
theorem dX4_gain_26 : decode cX4_gain 26 = .ok (.aload_n 0, 1) := by decide +kernel
theorem dX4_gain_27 : decode cX4_gain 27 = .ok (.iload_n 1, 1) := by decide +kernel
theorem dX4_gain_28 : decode cX4_gain 28 = .ok (.invokevirtual 126, 3) := by decide +kernel
theorem dX4_gain_31 : decode cX4_gain 31 = .ok (.astore 4, 2) := by decide +kernel
theorem dX4_gain_33 : decode cX4_gain 33 = .ok (.aload_n 0, 1) := by decide +kernel
theorem dX4_gain_34 : decode cX4_gain 34 = .ok (.aload 4, 2) := by decide +kernel
theorem dX4_gain_36 : decode cX4_gain 36 = .ok (.invokevirtual 137, 3) := by decide +kernel
theorem dX4_gain_39 : decode cX4_gain 39 = .ok (.ifCond .eq 22, 3) := by decide +kernel
theorem dX4_gain_42 : decode cX4_gain 42 = .ok (.aload 4, 2) := by decide +kernel
theorem dX4_gain_44 : decode cX4_gain 44 = .ok (.getfield 147, 3) := by decide +kernel
theorem dX4_gain_47 : decode cX4_gain 47 = .ok (.iload_n 2, 1) := by decide +kernel
theorem dX4_gain_48 : decode cX4_gain 48 = .ok (.laload, 1) := by decide +kernel
theorem dX4_gain_49 : decode cX4_gain 49 = .ok (.aload 4, 2) := by decide +kernel
theorem dX4_gain_51 : decode cX4_gain 51 = .ok (.getfield 150, 3) := by decide +kernel
theorem dX4_gain_54 : decode cX4_gain 54 = .ok (.iload_n 3, 1) := by decide +kernel
theorem dX4_gain_55 : decode cX4_gain 55 = .ok (.invokestatic 154, 3) := by decide +kernel
theorem dX4_gain_58 : decode cX4_gain 58 = .ok (.goto 6, 3) := by decide +kernel
theorem dX4_gain_61 : decode cX4_gain 61 = .ok (.ldc2_w 85, 3) := by decide +kernel
theorem dX4_gain_64 : decode cX4_gain 64 = .ok (.lreturn, 1) := by decide +kernel
set_option maxRecDepth 20000 in
theorem ggX4_after_X3_hasPlace : GoodIn wsX4_after wsX3_hasPlace := goodIn_r _ [11, 12, 82, 83, 84] (by decide +kernel) (by decide +kernel)
set_option maxRecDepth 20000 in
theorem gX4_after_X3_hasPlace : GoodIn wsX4_after (wsV RX4 107 RX3 yX3_hasPlace wsX3_hasPlace) := goodIn_app (goodIn_of _ (by decide +kernel)) ggX4_after_X3_hasPlace
set_option maxRecDepth 20000 in
theorem ggX4_after_X4_isPart : GoodIn wsX4_after wsX4_isPart := goodIn_r _ [16] (by decide +kernel) (by decide +kernel)
set_option maxRecDepth 20000 in
theorem gX4_after_X4_isPart : GoodIn wsX4_after (va_wsS RX4 144 yX4_isPart wsX4_isPart) := goodIn_app (goodIn_of _ (by decide +kernel)) ggX4_after_X4_isPart
set_option maxRecDepth 20000 in
theorem ggX4_after_X4_chain : GoodIn wsX4_after wsX4_chain := goodIn_r _ [20, 21, 22, 62, 63, 64, 65, 66, 67, 68, 69, 70, 71, 72, 73] (by decide +kernel) (by decide +kernel)
set_option maxRecDepth 20000 in
theorem gX4_after_X4_chain : GoodIn wsX4_after (wsV RX4 126 RX4 yX4_chain wsX4_chain) := goodIn_app (goodIn_of _ (by decide +kernel)) ggX4_after_X4_chain
set_option maxRecDepth 20000 in
theorem ggX4_after_X4_isFull : GoodIn wsX4_after wsX4_isFull := goodIn_r _ [26, 1, 27, 28, 62, 63, 64, 65, 66, 67, 68, 69, 70, 71, 72, 73, 82, 83, 84, 74, 75, 76, 77, 78, 79, 80, 81] (by decide +kernel) (by decide +kernel)
set_option maxRecDepth 20000 in
theorem gX4_after_X4_isFull : GoodIn wsX4_after (wsV RX4 137 RX4 yX4_isFull wsX4_isFull) := goodIn_app (goodIn_of _ (by decide +kernel)) ggX4_after_X4_isFull
set_option maxRecDepth 20000 in
theorem ggX4_after_X4_goTheWay : GoodIn wsX4_after wsX4_goTheWay := goodIn_r _ [32, 5, 33, 6, 1, 34, 35, 36, 17, 18, 19, 15, 20, 21, 22, 37, 38, 39, 10, 40, 41, 42, 43, 44, 45, 46, 47, 48, 49, 50, 51, 62, 63, 64, 65, 66, 67, 68, 69, 70, 71, 72, 73, 74, 75, 76, 77, 78, 79, 80, 81, 82, 83, 84] (by decide +kernel) (by decide +kernel)
set_option maxRecDepth 20000 in
theorem gX4_after_X4_goTheWay : GoodIn wsX4_after (wsV RX4 158 RX4 yX4_goTheWay wsX4_goTheWay) := goodIn_app (goodIn_of _ (by decide +kernel)) ggX4_after_X4_goTheWay
set_option maxRecDepth 20000 in
theorem ggX4_after_X4_fraction : GoodIn wsX4_after wsX4_fraction := goodIn_r _ [54, 55, 56, 57, 58, 59, 60, 15, 61, 49, 50, 51] (by decide +kernel) (by decide +kernel)
set_option maxRecDepth 20000 in
theorem gX4_after_X4_fraction : GoodIn wsX4_after (va_wsS RX4 154 yX4_fraction wsX4_fraction) := goodIn_app (goodIn_of _ (by decide +kernel)) ggX4_after_X4_fraction
theorem dX4_after_0 : decode cX4_after 0 = .ok (.aload_n 0, 1) := by decide +kernel
theorem dX4_after_1 : decode cX4_after 1 = .ok (.getfield 19, 3) := by decide +kernel
theorem dX4_after_4 : decode cX4_after 4 = .ok (.iload_n 3, 1) := by decide +kernel
theorem dX4_after_5 : decode cX4_after 5 = .ok (.invokevirtual 107, 3) := by decide +kernel
theorem dX4_after_8 : decode cX4_after 8 = .ok (.ifCond .ne 7, 3) := by decide +kernel
theorem dX4_after_11 : decode cX4_after 11 = .ok (.ldc2_w 101, 3) := by decide +kernel
theorem dX4_after_14 : decode cX4_after 14 = .ok (.lreturn, 1) := by decide +kernel
theorem dX4_after_15 : decode cX4_after 15 = .ok (.iload_n 2, 1) := by decide +kernel
theorem dX4_after_16 : decode cX4_after 16 = .ok (.ifCond .lt 16, 3) := by decide +kernel
theorem dX4_after_19 : decode cX4_after 19 = .ok (.iload_n 2, 1) := by decide +kernel
theorem dX4_after_20 : decode cX4_after 20 = .ok (.iconst 4, 1) := by decide +kernel
theorem dX4_after_21 : decode cX4_after 21 = .ok (.if_icmp .gt 11, 3) := by decide +kernel
theorem dX4_after_24 : decode cX4_after 24 = .ok (.iload 4, 2) := by decide +kernel
theorem dX4_after_26 : decode cX4_after 26 = .ok (.invokestatic 144, 3) := by decide +kernel
theorem dX4_after_29 : decode cX4_after 29 = .ok (.ifCond .ne 7, 3) := by decide +kernel
theorem dX4_after_32 : decode cX4_after 32 = .ok (.ldc2_w 66, 3) := by decide +kernel
theorem dX4_after_35 : decode cX4_after 35 = .ok (.lreturn, 1) := by decide +kernel
theorem dX4_after_36 : decode cX4_after 36 = .ok (.aload_n 0, 1) := by decide +kernel
theorem dX4_after_37 : decode cX4_after 37 = .ok (.iload_n 1, 1) := by decide +kernel
theorem dX4_after_38 : decode cX4_after 38 = .ok (.invokevirtual 126, 3) := by decide +kernel
theorem dX4_after_41 : decode cX4_after 41 = .ok (.astore 5, 2) := by decide +kernel
theorem dX4_after_43 : decode cX4_after 43 = .ok (.aload_n 0, 1) := by decide +kernel
theorem dX4_after_44 : decode cX4_after 44 = .ok (.aload 5, 2) := by decide +kernel
theorem dX4_after_46 : decode cX4_after 46 = .ok (.invokevirtual 137, 3) := by decide +kernel
theorem dX4_after_49 : decode cX4_after 49 = .ok (.ifCond .ne 7, 3) := by decide +kernel
theorem dX4_after_52 : decode cX4_after 52 = .ok (.ldc2_w 85, 3) := by decide +kernel
theorem dX4_after_55 : decode cX4_after 55 = .ok (.lreturn, 1) := by decide +kernel
theorem dX4_after_56 : decode cX4_after 56 = .ok (.aload_n 0, 1) := by decide +kernel
theorem dX4_after_57 : decode cX4_after 57 = .ok (.iload_n 1, 1) := by decide +kernel
theorem dX4_after_58 : decode cX4_after 58 = .ok (.iload_n 2, 1) := by decide +kernel
theorem dX4_after_59 : decode cX4_after 59 = .ok (.invokevirtual 158, 3) := by decide +kernel
theorem dX4_after_62 : decode cX4_after 62 = .ok (.aload_n 0, 1) := by decide +kernel
theorem dX4_after_63 : decode cX4_after 63 = .ok (.getfield 46, 3) := by decide +kernel
theorem dX4_after_66 : decode cX4_after 66 = .ok (.iload_n 3, 1) := by decide +kernel
theorem dX4_after_67 : decode cX4_after 67 = .ok (.laload, 1) := by decide +kernel
theorem dX4_after_68 : decode cX4_after 68 = .ok (.aload 5, 2) := by decide +kernel
theorem dX4_after_70 : decode cX4_after 70 = .ok (.getfield 150, 3) := by decide +kernel
theorem dX4_after_73 : decode cX4_after 73 = .ok (.iload 4, 2) := by decide +kernel
theorem dX4_after_75 : decode cX4_after 75 = .ok (.invokestatic 154, 3) := by decide +kernel
theorem dX4_after_78 : decode cX4_after 78 = .ok (.lreturn, 1) := by decide +kernel
set_option maxRecDepth 20000 in
theorem ggX4_input_X4_isFull : GoodIn wsX4_input wsX4_isFull := goodIn_r _ [11, 12, 13, 14, 56, 57, 58, 59, 60, 61, 62, 63, 64, 65, 66, 67, 76, 77, 78, 68, 69, 70, 71, 72, 73, 74, 75] (by decide +kernel) (by decide +kernel)
set_option maxRecDepth 20000 in
theorem gX4_input_X4_isFull : GoodIn wsX4_input (wsV RX4 137 RX4 yX4_isFull wsX4_isFull) := goodIn_app (goodIn_of _ (by decide +kernel)) ggX4_input_X4_isFull
set_option maxRecDepth 20000 in
theorem ggX4_input_X4_isPart : GoodIn wsX4_input wsX4_isPart := goodIn_r _ [17] (by decide +kernel) (by decide +kernel)
set_option maxRecDepth 20000 in
theorem gX4_input_X4_isPart : GoodIn wsX4_input (va_wsS RX4 144 yX4_isPart wsX4_isPart) := goodIn_app (goodIn_of _ (by decide +kernel)) ggX4_input_X4_isPart
set_option maxRecDepth 20000 in
theorem ggX4_input_X4_goTheWay : GoodIn wsX4_input wsX4_goTheWay := goodIn_r _ [21, 5, 22, 6, 12, 4, 23, 24, 25, 26, 27, 10, 28, 29, 1, 30, 31, 32, 33, 34, 35, 36, 37, 38, 39, 40, 41, 42, 43, 44, 45, 56, 57, 58, 59, 60, 61, 62, 63, 64, 65, 66, 67, 68, 69, 70, 71, 72, 73, 74, 75, 76, 77, 78] (by decide +kernel) (by decide +kernel)
set_option maxRecDepth 20000 in
theorem gX4_input_X4_goTheWay : GoodIn wsX4_input (wsV RX4 158 RX4 yX4_goTheWay wsX4_goTheWay) := goodIn_app (goodIn_of _ (by decide +kernel)) ggX4_input_X4_goTheWay
set_option maxRecDepth 20000 in
theorem ggX4_input_X4_dot : GoodIn wsX4_input wsX4_dot := goodIn_r _ [38] (by decide +kernel) (by decide +kernel)
set_option maxRecDepth 20000 in
theorem gX4_input_X4_dot : GoodIn wsX4_input (va_wsS RX4 162 yX4_dot wsX4_dot) := goodIn_app (goodIn_of _ (by decide +kernel)) ggX4_input_X4_dot
set_option maxRecDepth 20000 in
theorem ggX4_input_X4_quotient : GoodIn wsX4_input wsX4_quotient := goodIn_r _ [45] (by decide +kernel) (by decide +kernel)
set_option maxRecDepth 20000 in
theorem gX4_input_X4_quotient : GoodIn wsX4_input (va_wsS RX4 166 yX4_quotient wsX4_quotient) := goodIn_app (goodIn_of _ (by decide +kernel)) ggX4_input_X4_quotient
set_option maxRecDepth 20000 in
theorem ggX4_input_X4_fraction : GoodIn wsX4_input wsX4_fraction := goodIn_r _ [48, 49, 50, 51, 52, 53, 54, 10, 55, 43, 44, 45] (by decide +kernel) (by decide +kernel)
set_option maxRecDepth 20000 in
theorem gX4_input_X4_fraction : GoodIn wsX4_input (va_wsS RX4 154 yX4_fraction wsX4_fraction) := goodIn_app (goodIn_of _ (by decide +kernel)) ggX4_input_X4_fraction
theorem dX4_input_0 : decode cX4_input 0 = .ok (.aload_n 0, 1) := by decide +kernel
theorem dX4_input_1 : decode cX4_input 1 = .ok (.aload_n 0, 1) := by decide +kernel
theorem dX4_input_2 : decode cX4_input 2 = .ok (.getfield 28, 3) := by decide +kernel
theorem dX4_input_5 : decode cX4_input 5 = .ok (.invokevirtual 137, 3) := by decide +kernel
theorem dX4_input_8 : decode cX4_input 8 = .ok (.ifCond .ne 7, 3) := by decide +kernel
theorem dX4_input_11 : decode cX4_input 11 = .ok (.ldc2_w 85, 3) := by decide +kernel
theorem dX4_input_14 : decode cX4_input 14 = .ok (.lreturn, 1) := by decide +kernel
theorem dX4_input_15 : decode cX4_input 15 = .ok (.iload_n 1, 1) := by decide +kernel
theorem dX4_input_16 : decode cX4_input 16 = .ok (.ifCond .lt 15, 3) := by decide +kernel
theorem dX4_input_19 : decode cX4_input 19 = .ok (.iload_n 1, 1) := by decide +kernel
theorem dX4_input_20 : decode cX4_input 20 = .ok (.iconst 4, 1) := by decide +kernel
theorem dX4_input_21 : decode cX4_input 21 = .ok (.if_icmp .gt 10, 3) := by decide +kernel
theorem dX4_input_24 : decode cX4_input 24 = .ok (.iload_n 2, 1) := by decide +kernel
theorem dX4_input_25 : decode cX4_input 25 = .ok (.invokestatic 144, 3) := by decide +kernel
theorem dX4_input_28 : decode cX4_input 28 = .ok (.ifCond .ne 7, 3) := by decide +kernel
theorem dX4_input_31 : decode cX4_input 31 = .ok (.ldc2_w 66, 3) := by decide +kernel
theorem dX4_input_34 : decode cX4_input 34 = .ok (.lreturn, 1) := by decide +kernel
theorem dX4_input_35 : decode cX4_input 35 = .ok (.aload_n 0, 1) := by decide +kernel
theorem dX4_input_36 : decode cX4_input 36 = .ok (.iconst 0, 1) := by decide +kernel
theorem dX4_input_37 : decode cX4_input 37 = .ok (.iload_n 1, 1) := by decide +kernel
theorem dX4_input_38 : decode cX4_input 38 = .ok (.invokevirtual 158, 3) := by decide +kernel
theorem dX4_input_41 : decode cX4_input 41 = .ok (.aload_n 0, 1) := by decide +kernel
theorem dX4_input_42 : decode cX4_input 42 = .ok (.getfield 28, 3) := by decide +kernel
theorem dX4_input_45 : decode cX4_input 45 = .ok (.getfield 147, 3) := by decide +kernel
theorem dX4_input_48 : decode cX4_input 48 = .ok (.aload_n 0, 1) := by decide +kernel
theorem dX4_input_49 : decode cX4_input 49 = .ok (.getfield 46, 3) := by decide +kernel
theorem dX4_input_52 : decode cX4_input 52 = .ok (.invokestatic 162, 3) := by decide +kernel
theorem dX4_input_55 : decode cX4_input 55 = .ok (.aload_n 0, 1) := by decide +kernel
theorem dX4_input_56 : decode cX4_input 56 = .ok (.getfield 28, 3) := by decide +kernel
theorem dX4_input_59 : decode cX4_input 59 = .ok (.getfield 150, 3) := by decide +kernel
theorem dX4_input_62 : decode cX4_input 62 = .ok (.invokestatic 166, 3) := by decide +kernel
theorem dX4_input_65 : decode cX4_input 65 = .ok (.lneg, 1) := by decide +kernel
theorem dX4_input_66 : decode cX4_input 66 = .ok (.aload_n 0, 1) := by decide +kernel
theorem dX4_input_67 : decode cX4_input 67 = .ok (.getfield 28, 3) := by decide +kernel
theorem dX4_input_70 : decode cX4_input 70 = .ok (.getfield 150, 3) := by decide +kernel
theorem dX4_input_73 : decode cX4_input 73 = .ok (.iload_n 2, 1) := by decide +kernel
theorem dX4_input_74 : decode cX4_input 74 = .ok (.invokestatic 154, 3) := by decide +kernel
theorem dX4_input_77 : decode cX4_input 77 = .ok (.lreturn, 1) := by decide +kernel
set_option maxRecDepth 20000 in
theorem ggX4_most_X4_chain : GoodIn wsX4_most wsX4_chain := goodIn_r _ [8, 9, 10, 16, 17, 18, 19, 20, 21, 22, 23, 24, 25, 26, 27] (by decide +kernel) (by decide +kernel)
set_option maxRecDepth 20000 in
theorem gX4_most_X4_chain : GoodIn wsX4_most (wsV RX4 126 RX4 yX4_chain wsX4_chain) := goodIn_app (goodIn_of _ (by decide +kernel)) ggX4_most_X4_chain
set_option maxRecDepth 20000 in
theorem ggX4_most_X4_isFull : GoodIn wsX4_most wsX4_isFull := goodIn_r _ [14, 1, 2, 15, 16, 17, 18, 19, 20, 21, 22, 23, 24, 25, 26, 27, 28, 29, 30, 31, 32, 33, 34, 35, 36, 37, 38] (by decide +kernel) (by decide +kernel)
set_option maxRecDepth 20000 in
theorem gX4_most_X4_isFull : GoodIn wsX4_most (wsV RX4 137 RX4 yX4_isFull wsX4_isFull) := goodIn_app (goodIn_of _ (by decide +kernel)) ggX4_most_X4_isFull
theorem dX4_most_0 : decode cX4_most 0 = .ok (.aload_n 0, 1) := by decide +kernel
theorem dX4_most_1 : decode cX4_most 1 = .ok (.aload_n 0, 1) := by decide +kernel
theorem dX4_most_2 : decode cX4_most 2 = .ok (.iload_n 1, 1) := by decide +kernel
theorem dX4_most_3 : decode cX4_most 3 = .ok (.invokevirtual 126, 3) := by decide +kernel
theorem dX4_most_6 : decode cX4_most 6 = .ok (.invokevirtual 137, 3) := by decide +kernel
theorem dX4_most_9 : decode cX4_most 9 = .ok (.ifCond .eq 14, 3) := by decide +kernel
theorem dX4_most_12 : decode cX4_most 12 = .ok (.aload_n 0, 1) := by decide +kernel
theorem dX4_most_13 : decode cX4_most 13 = .ok (.getfield 19, 3) := by decide +kernel
theorem dX4_most_16 : decode cX4_most 16 = .ok (.getfield 94, 3) := by decide +kernel
theorem dX4_most_19 : decode cX4_most 19 = .ok (.i2l, 1) := by decide +kernel
theorem dX4_most_20 : decode cX4_most 20 = .ok (.goto 6, 3) := by decide +kernel
theorem dX4_most_23 : decode cX4_most 23 = .ok (.ldc2_w 85, 3) := by decide +kernel
theorem dX4_most_26 : decode cX4_most 26 = .ok (.lreturn, 1) := by decide +kernel
set_option maxRecDepth 20000 in
theorem ggX4_plan_X2_seek : GoodIn wsX4_plan wsX2_seek := goodIn_r _ [17, 18, 19, 20, 21, 22, 23, 24, 25, 26, 27, 28, 29, 30, 16, 31, 32, 33, 34, 35, 36, 37, 38, 39, 40, 41, 42, 43, 44, 45, 46, 47, 48, 49, 50, 51, 52, 53, 54, 55, 56, 57, 58, 59, 60, 61, 62, 63, 64, 65, 66, 67, 68, 69, 70, 71, 72, 73, 74, 75, 76, 77, 93, 94, 95, 96, 97, 98, 99, 100, 101, 102, 103, 104, 105, 106, 107, 108, 90, 91, 92] (by decide +kernel) (by decide +kernel)
set_option maxRecDepth 20000 in
theorem gX4_plan_X2_seek : GoodIn wsX4_plan (wsV RX4 170 RX2 yX2_seek wsX2_seek) := goodIn_app (goodIn_of _ (by decide +kernel)) ggX4_plan_X2_seek
theorem dX4_plan_0 : decode cX4_plan 0 = .ok (.aload_n 0, 1) := by decide +kernel
theorem dX4_plan_1 : decode cX4_plan 1 = .ok (.getfield 19, 3) := by decide +kernel
theorem dX4_plan_4 : decode cX4_plan 4 = .ok (.getfield 94, 3) := by decide +kernel
theorem dX4_plan_7 : decode cX4_plan 7 = .ok (.ifCond .ne 7, 3) := by decide +kernel
theorem dX4_plan_10 : decode cX4_plan 10 = .ok (.ldc2_w 85, 3) := by decide +kernel
theorem dX4_plan_13 : decode cX4_plan 13 = .ok (.lreturn, 1) := by decide +kernel
theorem dX4_plan_14 : decode cX4_plan 14 = .ok (.iload_n 1, 1) := by decide +kernel
theorem dX4_plan_15 : decode cX4_plan 15 = .ok (.ifCond .eq 19, 3) := by decide +kernel
theorem dX4_plan_18 : decode cX4_plan 18 = .ok (.iload_n 1, 1) := by decide +kernel
theorem dX4_plan_19 : decode cX4_plan 19 = .ok (.bipush 10, 2) := by decide +kernel
theorem dX4_plan_21 : decode cX4_plan 21 = .ok (.if_icmp .lt 9, 3) := by decide +kernel
theorem dX4_plan_24 : decode cX4_plan 24 = .ok (.iload_n 1, 1) := by decide +kernel
theorem dX4_plan_25 : decode cX4_plan 25 = .ok (.bipush 16, 2) := by decide +kernel
theorem dX4_plan_27 : decode cX4_plan 27 = .ok (.if_icmp .lt 7, 3) := by decide +kernel
theorem dX4_plan_30 : decode cX4_plan 30 = .ok (.ldc2_w 66, 3) := by decide +kernel
theorem dX4_plan_33 : decode cX4_plan 33 = .ok (.lreturn, 1) := by decide +kernel
theorem dX4_plan_34 : decode cX4_plan 34 = .ok (.aload_n 0, 1) := by decide +kernel
theorem dX4_plan_35 : decode cX4_plan 35 = .ok (.getfield 62, 3) := by decide +kernel
theorem dX4_plan_38 : decode cX4_plan 38 = .ok (.ifCond .ne 31, 3) := by decide +kernel
theorem dX4_plan_41 : decode cX4_plan 41 = .ok (.aload_n 0, 1) := by decide +kernel
theorem dX4_plan_42 : decode cX4_plan 42 = .ok (.getfield 38, 3) := by decide +kernel
theorem dX4_plan_45 : decode cX4_plan 45 = .ok (.aload_n 0, 1) := by decide +kernel
theorem dX4_plan_46 : decode cX4_plan 46 = .ok (.getfield 19, 3) := by decide +kernel
theorem dX4_plan_49 : decode cX4_plan 49 = .ok (.aload_n 0, 1) := by decide +kernel
theorem dX4_plan_50 : decode cX4_plan 50 = .ok (.getfield 28, 3) := by decide +kernel
theorem dX4_plan_53 : decode cX4_plan 53 = .ok (.aload_n 0, 1) := by decide +kernel
theorem dX4_plan_54 : decode cX4_plan 54 = .ok (.getfield 42, 3) := by decide +kernel
theorem dX4_plan_57 : decode cX4_plan 57 = .ok (.aload_n 0, 1) := by decide +kernel
theorem dX4_plan_58 : decode cX4_plan 58 = .ok (.getfield 52, 3) := by decide +kernel
theorem dX4_plan_61 : decode cX4_plan 61 = .ok (.invokevirtual 170, 3) := by decide +kernel
theorem dX4_plan_64 : decode cX4_plan 64 = .ok (.aload_n 0, 1) := by decide +kernel
theorem dX4_plan_65 : decode cX4_plan 65 = .ok (.iconst 1, 1) := by decide +kernel
theorem dX4_plan_66 : decode cX4_plan 66 = .ok (.putfield 62, 3) := by decide +kernel
theorem dX4_plan_69 : decode cX4_plan 69 = .ok (.iload_n 1, 1) := by decide +kernel
theorem dX4_plan_70 : decode cX4_plan 70 = .ok (.ifCond .ne 28, 3) := by decide +kernel
theorem dX4_plan_73 : decode cX4_plan 73 = .ok (.aload_n 0, 1) := by decide +kernel
theorem dX4_plan_74 : decode cX4_plan 74 = .ok (.getfield 38, 3) := by decide +kernel
theorem dX4_plan_77 : decode cX4_plan 77 = .ok (.getfield 174, 3) := by decide +kernel
theorem dX4_plan_80 : decode cX4_plan 80 = .ok (.ifCond .ge 9, 3) := by decide +kernel
theorem dX4_plan_83 : decode cX4_plan 83 = .ok (.ldc2_w 177, 3) := by decide +kernel
theorem dX4_plan_86 : decode cX4_plan 86 = .ok (.goto 11, 3) := by decide +kernel
theorem dX4_plan_89 : decode cX4_plan 89 = .ok (.aload_n 0, 1) := by decide +kernel
theorem dX4_plan_90 : decode cX4_plan 90 = .ok (.getfield 38, 3) := by decide +kernel
theorem dX4_plan_93 : decode cX4_plan 93 = .ok (.getfield 174, 3) := by decide +kernel
theorem dX4_plan_96 : decode cX4_plan 96 = .ok (.i2l, 1) := by decide +kernel
theorem dX4_plan_97 : decode cX4_plan 97 = .ok (.lreturn, 1) := by decide +kernel
theorem dX4_plan_98 : decode cX4_plan 98 = .ok (.iload_n 1, 1) := by decide +kernel
theorem dX4_plan_99 : decode cX4_plan 99 = .ok (.bipush 10, 2) := by decide +kernel
theorem dX4_plan_101 : decode cX4_plan 101 = .ok (.isub, 1) := by decide +kernel
theorem dX4_plan_102 : decode cX4_plan 102 = .ok (.aload_n 0, 1) := by decide +kernel
theorem dX4_plan_103 : decode cX4_plan 103 = .ok (.getfield 38, 3) := by decide +kernel
theorem dX4_plan_106 : decode cX4_plan 106 = .ok (.getfield 174, 3) := by decide +kernel
theorem dX4_plan_109 : decode cX4_plan 109 = .ok (.if_icmp .ge 19, 3) := by decide +kernel
theorem dX4_plan_112 : decode cX4_plan 112 = .ok (.aload_n 0, 1) := by decide +kernel
theorem dX4_plan_113 : decode cX4_plan 113 = .ok (.getfield 38, 3) := by decide +kernel
theorem dX4_plan_116 : decode cX4_plan 116 = .ok (.getfield 179, 3) := by decide +kernel
theorem dX4_plan_119 : decode cX4_plan 119 = .ok (.iload_n 1, 1) := by decide +kernel
theorem dX4_plan_120 : decode cX4_plan 120 = .ok (.bipush 10, 2) := by decide +kernel
theorem dX4_plan_122 : decode cX4_plan 122 = .ok (.isub, 1) := by decide +kernel
theorem dX4_plan_123 : decode cX4_plan 123 = .ok (.iaload, 1) := by decide +kernel
theorem dX4_plan_124 : decode cX4_plan 124 = .ok (.i2l, 1) := by decide +kernel
theorem dX4_plan_125 : decode cX4_plan 125 = .ok (.goto 6, 3) := by decide +kernel
theorem dX4_plan_128 : decode cX4_plan 128 = .ok (.ldc2_w 177, 3) := by decide +kernel
theorem dX4_plan_131 : decode cX4_plan 131 = .ok (.lreturn, 1) := by decide +kernel
theorem dX4_count_0 : decode cX4_count 0 = .ok (.iload_n 1, 1) := by decide +kernel
theorem dX4_count_1 : decode cX4_count 1 = .ok (.tableswitch 71 0 4 #[35, 44, 53, 59, 65], 35) := by decide +kernel
theorem dX4_count_36 : decode cX4_count 36 = .ok (.aload_n 0, 1) := by decide +kernel
theorem dX4_count_37 : decode cX4_count 37 = .ok (.getfield 19, 3) := by decide +kernel
theorem dX4_count_40 : decode cX4_count 40 = .ok (.getfield 94, 3) := by decide +kernel
theorem dX4_count_43 : decode cX4_count 43 = .ok (.i2l, 1) := by decide +kernel
theorem dX4_count_44 : decode cX4_count 44 = .ok (.lreturn, 1) := by decide +kernel
theorem dX4_count_45 : decode cX4_count 45 = .ok (.aload_n 0, 1) := by decide +kernel
theorem dX4_count_46 : decode cX4_count 46 = .ok (.getfield 10, 3) := by decide +kernel
theorem dX4_count_49 : decode cX4_count 49 = .ok (.getfield 68, 3) := by decide +kernel
theorem dX4_count_52 : decode cX4_count 52 = .ok (.i2l, 1) := by decide +kernel
theorem dX4_count_53 : decode cX4_count 53 = .ok (.lreturn, 1) := by decide +kernel
theorem dX4_count_54 : decode cX4_count 54 = .ok (.aload_n 0, 1) := by decide +kernel
theorem dX4_count_55 : decode cX4_count 55 = .ok (.getfield 52, 3) := by decide +kernel
theorem dX4_count_58 : decode cX4_count 58 = .ok (.i2l, 1) := by decide +kernel
theorem dX4_count_59 : decode cX4_count 59 = .ok (.lreturn, 1) := by decide +kernel
theorem dX4_count_60 : decode cX4_count 60 = .ok (.aload_n 0, 1) := by decide +kernel
theorem dX4_count_61 : decode cX4_count 61 = .ok (.getfield 56, 3) := by decide +kernel
theorem dX4_count_64 : decode cX4_count 64 = .ok (.i2l, 1) := by decide +kernel
theorem dX4_count_65 : decode cX4_count 65 = .ok (.lreturn, 1) := by decide +kernel
theorem dX4_count_66 : decode cX4_count 66 = .ok (.aload_n 0, 1) := by decide +kernel
theorem dX4_count_67 : decode cX4_count 67 = .ok (.getfield 59, 3) := by decide +kernel
theorem dX4_count_70 : decode cX4_count 70 = .ok (.i2l, 1) := by decide +kernel
theorem dX4_count_71 : decode cX4_count 71 = .ok (.lreturn, 1) := by decide +kernel
theorem dX4_count_72 : decode cX4_count 72 = .ok (.ldc2_w 66, 3) := by decide +kernel
theorem dX4_count_75 : decode cX4_count 75 = .ok (.lreturn, 1) := by decide +kernel
set_option maxRecDepth 20000 in
theorem ggX4_digest_X3_hasCell : GoodIn wsX4_digest wsX3_hasCell := goodIn_r _ [13, 14, 193, 194, 195] (by decide +kernel) (by decide +kernel)
set_option maxRecDepth 20000 in
theorem gX4_digest_X3_hasCell : GoodIn wsX4_digest (wsV RX4 97 RX3 yX3_hasCell wsX3_hasCell) := goodIn_app (goodIn_of _ (by decide +kernel)) ggX4_digest_X3_hasCell
set_option maxRecDepth 20000 in
theorem ggX4_digest_X4_withPlant : GoodIn wsX4_digest wsX4_withPlant := goodIn_r _ [19, 2, 5, 3, 20, 21, 22, 23, 24, 25, 18, 26, 27, 28, 29, 30, 31, 32, 33, 34, 35, 36, 37, 38, 39, 40, 41, 42, 43, 44, 45, 46, 47, 48, 49, 12, 50, 51, 52, 53, 54, 55, 56, 57, 58, 59, 60, 61, 62, 63, 64, 65, 66, 67, 68, 69, 70, 71, 72, 73, 74, 75, 76, 77, 78, 79, 80, 81, 82, 83, 84, 85, 86, 87, 88, 89, 90, 91, 14, 92, 93, 94, 95, 96, 97, 98, 99, 100, 101, 102, 103, 104, 105, 106, 107, 108, 109, 110, 111, 112, 113, 114, 115, 116, 117, 118, 119, 120, 4, 121, 122, 123, 124, 125, 126, 127, 128, 129, 130, 131, 132, 133, 134, 135, 136, 137, 138, 139, 140, 141, 142, 143, 144, 145, 146, 147, 148, 149, 150, 151, 152, 153, 154, 155, 156, 157, 158, 159, 160, 161, 162, 163, 164, 165, 166, 167, 168, 169, 170, 171, 172, 173, 174, 181, 182, 183, 184, 185, 186, 187, 188, 189, 190, 191, 192, 193, 194, 195, 202, 203, 204, 205, 206, 207, 208, 209, 210, 211, 212, 213, 214, 215, 216, 217] (by decide +kernel) (by decide +kernel)
set_option maxRecDepth 20000 in
theorem gX4_digest_X4_withPlant : GoodIn wsX4_digest (wsV RX4 186 RX4 yX4_withPlant wsX4_withPlant) := goodIn_app (goodIn_of _ (by decide +kernel)) ggX4_digest_X4_withPlant
set_option maxRecDepth 20000 in
theorem ggX4_digest_X4_count : GoodIn wsX4_digest wsX4_count := goodIn_r _ [178, 2, 5, 6, 7, 133, 179, 180, 34, 181, 182, 183, 184, 185, 186, 187, 188, 189, 190, 191, 192, 193, 194, 195, 196, 197, 198, 199, 200, 201] (by decide +kernel) (by decide +kernel)
set_option maxRecDepth 20000 in
theorem gX4_digest_X4_count : GoodIn wsX4_digest (wsV RX4 193 RX4 yX4_count wsX4_count) := goodIn_app (goodIn_of _ (by decide +kernel)) ggX4_digest_X4_count
theorem dX4_digest_0 : decode cX4_digest 0 = .ok (.ldc2_w 182, 3) := by decide +kernel
theorem dX4_digest_3 : decode cX4_digest 3 = .ok (.lstore_n 1, 1) := by decide +kernel
theorem dX4_digest_4 : decode cX4_digest 4 = .ok (.iconst 0, 1) := by decide +kernel
theorem dX4_digest_5 : decode cX4_digest 5 = .ok (.istore_n 3, 1) := by decide +kernel
theorem dX4_digest_6 : decode cX4_digest 6 = .ok (.iload_n 3, 1) := by decide +kernel
theorem dX4_digest_7 : decode cX4_digest 7 = .ok (.bipush 15, 2) := by decide +kernel
theorem dX4_digest_9 : decode cX4_digest 9 = .ok (.if_icmp .ge 37, 3) := by decide +kernel
theorem dX4_digest_12 : decode cX4_digest 12 = .ok (.aload_n 0, 1) := by decide +kernel
theorem dX4_digest_13 : decode cX4_digest 13 = .ok (.getfield 19, 3) := by decide +kernel
theorem dX4_digest_16 : decode cX4_digest 16 = .ok (.iload_n 3, 1) := by decide +kernel
theorem dX4_digest_17 : decode cX4_digest 17 = .ok (.invokevirtual 97, 3) := by decide +kernel
theorem dX4_digest_20 : decode cX4_digest 20 = .ok (.ifCond .eq 20, 3) := by decide +kernel
theorem dX4_digest_23 : decode cX4_digest 23 = .ok (.ldc2_w 184, 3) := by decide +kernel
theorem dX4_digest_26 : decode cX4_digest 26 = .ok (.lload_n 1, 1) := by decide +kernel
theorem dX4_digest_27 : decode cX4_digest 27 = .ok (.lmul, 1) := by decide +kernel
theorem dX4_digest_28 : decode cX4_digest 28 = .ok (.aload_n 0, 1) := by decide +kernel
theorem dX4_digest_29 : decode cX4_digest 29 = .ok (.getfield 19, 3) := by decide +kernel
theorem dX4_digest_32 : decode cX4_digest 32 = .ok (.getfield 103, 3) := by decide +kernel
theorem dX4_digest_35 : decode cX4_digest 35 = .ok (.iload_n 3, 1) := by decide +kernel
theorem dX4_digest_36 : decode cX4_digest 36 = .ok (.iaload, 1) := by decide +kernel
theorem dX4_digest_37 : decode cX4_digest 37 = .ok (.i2l, 1) := by decide +kernel
theorem dX4_digest_38 : decode cX4_digest 38 = .ok (.ladd, 1) := by decide +kernel
theorem dX4_digest_39 : decode cX4_digest 39 = .ok (.lstore_n 1, 1) := by decide +kernel
theorem dX4_digest_40 : decode cX4_digest 40 = .ok (.iinc 3 1, 3) := by decide +kernel
theorem dX4_digest_43 : decode cX4_digest 43 = .ok (.goto (-37), 3) := by decide +kernel
theorem dX4_digest_46 : decode cX4_digest 46 = .ok (.aload_n 0, 1) := by decide +kernel
theorem dX4_digest_47 : decode cX4_digest 47 = .ok (.getfield 19, 3) := by decide +kernel
theorem dX4_digest_50 : decode cX4_digest 50 = .ok (.getfield 94, 3) := by decide +kernel
theorem dX4_digest_53 : decode cX4_digest 53 = .ok (.ifCond .le 9, 3) := by decide +kernel
theorem dX4_digest_56 : decode cX4_digest 56 = .ok (.aload_n 0, 1) := by decide +kernel
theorem dX4_digest_57 : decode cX4_digest 57 = .ok (.lload_n 1, 1) := by decide +kernel
theorem dX4_digest_58 : decode cX4_digest 58 = .ok (.invokevirtual 186, 3) := by decide +kernel
theorem dX4_digest_61 : decode cX4_digest 61 = .ok (.lstore_n 1, 1) := by decide +kernel
theorem dX4_digest_62 : decode cX4_digest 62 = .ok (.iconst 0, 1) := by decide +kernel
theorem dX4_digest_63 : decode cX4_digest 63 = .ok (.istore_n 3, 1) := by decide +kernel
theorem dX4_digest_64 : decode cX4_digest 64 = .ok (.iload_n 3, 1) := by decide +kernel
theorem dX4_digest_65 : decode cX4_digest 65 = .ok (.aload_n 0, 1) := by decide +kernel
theorem dX4_digest_66 : decode cX4_digest 66 = .ok (.getfield 10, 3) := by decide +kernel
theorem dX4_digest_69 : decode cX4_digest 69 = .ok (.getfield 68, 3) := by decide +kernel
theorem dX4_digest_72 : decode cX4_digest 72 = .ok (.if_icmp .ge 26, 3) := by decide +kernel
theorem dX4_digest_75 : decode cX4_digest 75 = .ok (.ldc2_w 184, 3) := by decide +kernel
theorem dX4_digest_78 : decode cX4_digest 78 = .ok (.lload_n 1, 1) := by decide +kernel
theorem dX4_digest_79 : decode cX4_digest 79 = .ok (.lmul, 1) := by decide +kernel
theorem dX4_digest_80 : decode cX4_digest 80 = .ok (.aload_n 0, 1) := by decide +kernel
theorem dX4_digest_81 : decode cX4_digest 81 = .ok (.getfield 10, 3) := by decide +kernel
theorem dX4_digest_84 : decode cX4_digest 84 = .ok (.getfield 190, 3) := by decide +kernel
theorem dX4_digest_87 : decode cX4_digest 87 = .ok (.iload_n 3, 1) := by decide +kernel
theorem dX4_digest_88 : decode cX4_digest 88 = .ok (.iaload, 1) := by decide +kernel
theorem dX4_digest_89 : decode cX4_digest 89 = .ok (.i2l, 1) := by decide +kernel
theorem dX4_digest_90 : decode cX4_digest 90 = .ok (.ladd, 1) := by decide +kernel
theorem dX4_digest_91 : decode cX4_digest 91 = .ok (.lstore_n 1, 1) := by decide +kernel
theorem dX4_digest_92 : decode cX4_digest 92 = .ok (.iinc 3 1, 3) := by decide +kernel
theorem dX4_digest_95 : decode cX4_digest 95 = .ok (.goto (-31), 3) := by decide +kernel
theorem dX4_digest_98 : decode cX4_digest 98 = .ok (.iconst 0, 1) := by decide +kernel
theorem dX4_digest_99 : decode cX4_digest 99 = .ok (.istore_n 3, 1) := by decide +kernel
theorem dX4_digest_100 : decode cX4_digest 100 = .ok (.iload_n 3, 1) := by decide +kernel
theorem dX4_digest_101 : decode cX4_digest 101 = .ok (.iconst 5, 1) := by decide +kernel
theorem dX4_digest_102 : decode cX4_digest 102 = .ok (.if_icmp .ge 21, 3) := by decide +kernel
theorem dX4_digest_105 : decode cX4_digest 105 = .ok (.ldc2_w 184, 3) := by decide +kernel
theorem dX4_digest_108 : decode cX4_digest 108 = .ok (.lload_n 1, 1) := by decide +kernel
theorem dX4_digest_109 : decode cX4_digest 109 = .ok (.lmul, 1) := by decide +kernel
theorem dX4_digest_110 : decode cX4_digest 110 = .ok (.aload_n 0, 1) := by decide +kernel
theorem dX4_digest_111 : decode cX4_digest 111 = .ok (.iload_n 3, 1) := by decide +kernel
theorem dX4_digest_112 : decode cX4_digest 112 = .ok (.invokevirtual 193, 3) := by decide +kernel
theorem dX4_digest_115 : decode cX4_digest 115 = .ok (.ladd, 1) := by decide +kernel
theorem dX4_digest_116 : decode cX4_digest 116 = .ok (.lstore_n 1, 1) := by decide +kernel
theorem dX4_digest_117 : decode cX4_digest 117 = .ok (.iinc 3 1, 3) := by decide +kernel
theorem dX4_digest_120 : decode cX4_digest 120 = .ok (.goto (-20), 3) := by decide +kernel
theorem dX4_digest_123 : decode cX4_digest 123 = .ok (.lload_n 1, 1) := by decide +kernel
theorem dX4_digest_124 : decode cX4_digest 124 = .ok (.lreturn, 1) := by decide +kernel
set_option maxRecDepth 20000 in
theorem ggX4_withPlant_X4_withRows : GoodIn wsX4_withPlant wsX4_withRows := goodIn_r _ [11, 1, 2, 3, 12, 163, 164, 165, 166, 167, 168, 169, 170, 171, 172, 173, 174, 175, 176, 177, 178, 179, 180, 181, 182, 183, 184, 185] (by decide +kernel) (by decide +kernel)
set_option maxRecDepth 20000 in
theorem gX4_withPlant_X4_withRows : GoodIn wsX4_withPlant (wsV RX4 197 RX4 yX4_withRows wsX4_withRows) := goodIn_app (goodIn_of _ (by decide +kernel)) ggX4_withPlant_X4_withRows
set_option maxRecDepth 20000 in
theorem ggX4_withPlant_X4_about : GoodIn wsX4_withPlant wsX4_about := goodIn_r _ [16, 1, 2, 17, 5, 18, 6, 4, 19, 20, 21, 22, 10, 23, 24, 25, 26, 27, 28, 29, 30, 31, 32, 33, 34, 35, 36, 37, 38, 39, 40, 41, 42, 43, 44, 45, 46, 47, 48, 49, 50, 51, 52, 53, 54, 55, 56, 57, 58, 163, 164, 165, 166, 167, 168, 169, 170, 171, 172, 173, 174, 175, 176, 177, 178, 179, 180, 181, 182, 183, 184, 185] (by decide +kernel) (by decide +kernel)
set_option maxRecDepth 20000 in
theorem gX4_withPlant_X4_about : GoodIn wsX4_withPlant (wsV RX4 201 RX4 yX4_about wsX4_about) := goodIn_app (goodIn_of _ (by decide +kernel)) ggX4_withPlant_X4_about
set_option maxRecDepth 20000 in
theorem ggX4_withPlant_X4_withGains : GoodIn wsX4_withPlant wsX4_withGains := goodIn_r _ [62, 1, 2, 3, 63, 64, 65, 10, 66, 6, 5, 20, 21, 22, 23, 18, 67, 68, 69, 70, 71, 19, 72, 73, 17, 74, 75, 76, 35, 77, 78, 79, 80, 81, 82, 83, 84, 85, 86, 87, 88, 89, 90, 91, 92, 93, 94, 95, 96, 97, 98, 99, 100, 101, 102, 28, 103, 104, 105, 106, 4, 107, 108, 55, 56, 57, 58, 42, 109, 53, 54, 110, 39, 40, 41, 111, 112, 113, 114, 163, 164, 165, 166, 167, 168, 169, 170, 171, 172, 173, 174, 175, 176, 177, 178, 179, 180, 181, 182, 183, 184, 185] (by decide +kernel) (by decide +kernel)
set_option maxRecDepth 20000 in
theorem gX4_withPlant_X4_withGains : GoodIn wsX4_withPlant (wsV RX4 204 RX4 yX4_withGains wsX4_withGains) := goodIn_app (goodIn_of _ (by decide +kernel)) ggX4_withPlant_X4_withGains
set_option maxRecDepth 20000 in
theorem ggX4_withPlant_X4_plan : GoodIn wsX4_withPlant wsX4_plan := goodIn_r _ [118, 1, 2, 17, 19, 119, 120, 5, 4, 121, 122, 123, 124, 125, 126, 127, 128, 129, 130, 131, 132, 133, 134, 87, 135, 136, 137, 138, 139, 140, 141, 142, 143, 144, 145, 146, 30, 10, 31, 147, 33, 34, 35, 36, 37, 38, 39, 40, 41, 42, 148, 44, 45, 46, 47, 48, 49, 50, 51, 52, 53, 54, 149, 150, 151, 152, 153, 154, 155, 156, 157, 158, 159, 160, 161, 162, 93, 94, 163, 164, 165, 166, 167, 168, 169, 170, 171, 172, 173, 174, 175, 176, 177, 186, 187, 188, 189, 190, 191, 192, 193, 178, 179, 180, 181, 182, 183, 184, 185] (by decide +kernel) (by decide +kernel)
set_option maxRecDepth 20000 in
theorem gX4_withPlant_X4_plan : GoodIn wsX4_withPlant (wsV RX4 208 RX4 yX4_plan wsX4_plan) := goodIn_app (goodIn_of _ (by decide +kernel)) ggX4_withPlant_X4_plan
theorem dX4_withPlant_0 : decode cX4_withPlant 0 = .ok (.iconst 0, 1) := by decide +kernel
theorem dX4_withPlant_1 : decode cX4_withPlant 1 = .ok (.istore_n 3, 1) := by decide +kernel
theorem dX4_withPlant_2 : decode cX4_withPlant 2 = .ok (.iload_n 3, 1) := by decide +kernel
theorem dX4_withPlant_3 : decode cX4_withPlant 3 = .ok (.aload_n 0, 1) := by decide +kernel
theorem dX4_withPlant_4 : decode cX4_withPlant 4 = .ok (.getfield 19, 3) := by decide +kernel
theorem dX4_withPlant_7 : decode cX4_withPlant 7 = .ok (.getfield 94, 3) := by decide +kernel
theorem dX4_withPlant_10 : decode cX4_withPlant 10 = .ok (.if_icmp .ge 22, 3) := by decide +kernel
theorem dX4_withPlant_13 : decode cX4_withPlant 13 = .ok (.ldc2_w 184, 3) := by decide +kernel
theorem dX4_withPlant_16 : decode cX4_withPlant 16 = .ok (.lload_n 1, 1) := by decide +kernel
theorem dX4_withPlant_17 : decode cX4_withPlant 17 = .ok (.lmul, 1) := by decide +kernel
theorem dX4_withPlant_18 : decode cX4_withPlant 18 = .ok (.aload_n 0, 1) := by decide +kernel
theorem dX4_withPlant_19 : decode cX4_withPlant 19 = .ok (.getfield 42, 3) := by decide +kernel
theorem dX4_withPlant_22 : decode cX4_withPlant 22 = .ok (.iload_n 3, 1) := by decide +kernel
theorem dX4_withPlant_23 : decode cX4_withPlant 23 = .ok (.laload, 1) := by decide +kernel
theorem dX4_withPlant_24 : decode cX4_withPlant 24 = .ok (.ladd, 1) := by decide +kernel
theorem dX4_withPlant_25 : decode cX4_withPlant 25 = .ok (.lstore_n 1, 1) := by decide +kernel
theorem dX4_withPlant_26 : decode cX4_withPlant 26 = .ok (.iinc 3 1, 3) := by decide +kernel
theorem dX4_withPlant_29 : decode cX4_withPlant 29 = .ok (.goto (-27), 3) := by decide +kernel
theorem dX4_withPlant_32 : decode cX4_withPlant 32 = .ok (.aload_n 0, 1) := by decide +kernel
theorem dX4_withPlant_33 : decode cX4_withPlant 33 = .ok (.lload_n 1, 1) := by decide +kernel
theorem dX4_withPlant_34 : decode cX4_withPlant 34 = .ok (.aload_n 0, 1) := by decide +kernel
theorem dX4_withPlant_35 : decode cX4_withPlant 35 = .ok (.getfield 28, 3) := by decide +kernel
theorem dX4_withPlant_38 : decode cX4_withPlant 38 = .ok (.invokevirtual 197, 3) := by decide +kernel
theorem dX4_withPlant_41 : decode cX4_withPlant 41 = .ok (.lstore_n 1, 1) := by decide +kernel
theorem dX4_withPlant_42 : decode cX4_withPlant 42 = .ok (.aload_n 0, 1) := by decide +kernel
theorem dX4_withPlant_43 : decode cX4_withPlant 43 = .ok (.lload_n 1, 1) := by decide +kernel
theorem dX4_withPlant_44 : decode cX4_withPlant 44 = .ok (.aload_n 0, 1) := by decide +kernel
theorem dX4_withPlant_45 : decode cX4_withPlant 45 = .ok (.getfield 32, 3) := by decide +kernel
theorem dX4_withPlant_48 : decode cX4_withPlant 48 = .ok (.invokevirtual 197, 3) := by decide +kernel
theorem dX4_withPlant_51 : decode cX4_withPlant 51 = .ok (.lstore_n 1, 1) := by decide +kernel
theorem dX4_withPlant_52 : decode cX4_withPlant 52 = .ok (.iconst 0, 1) := by decide +kernel
theorem dX4_withPlant_53 : decode cX4_withPlant 53 = .ok (.istore_n 3, 1) := by decide +kernel
theorem dX4_withPlant_54 : decode cX4_withPlant 54 = .ok (.iload_n 3, 1) := by decide +kernel
theorem dX4_withPlant_55 : decode cX4_withPlant 55 = .ok (.bipush 6, 2) := by decide +kernel
theorem dX4_withPlant_57 : decode cX4_withPlant 57 = .ok (.if_icmp .ge 21, 3) := by decide +kernel
theorem dX4_withPlant_60 : decode cX4_withPlant 60 = .ok (.ldc2_w 184, 3) := by decide +kernel
theorem dX4_withPlant_63 : decode cX4_withPlant 63 = .ok (.lload_n 1, 1) := by decide +kernel
theorem dX4_withPlant_64 : decode cX4_withPlant 64 = .ok (.lmul, 1) := by decide +kernel
theorem dX4_withPlant_65 : decode cX4_withPlant 65 = .ok (.aload_n 0, 1) := by decide +kernel
theorem dX4_withPlant_66 : decode cX4_withPlant 66 = .ok (.iload_n 3, 1) := by decide +kernel
theorem dX4_withPlant_67 : decode cX4_withPlant 67 = .ok (.invokevirtual 201, 3) := by decide +kernel
theorem dX4_withPlant_70 : decode cX4_withPlant 70 = .ok (.ladd, 1) := by decide +kernel
theorem dX4_withPlant_71 : decode cX4_withPlant 71 = .ok (.lstore_n 1, 1) := by decide +kernel
theorem dX4_withPlant_72 : decode cX4_withPlant 72 = .ok (.iinc 3 1, 3) := by decide +kernel
theorem dX4_withPlant_75 : decode cX4_withPlant 75 = .ok (.goto (-21), 3) := by decide +kernel
theorem dX4_withPlant_78 : decode cX4_withPlant 78 = .ok (.aload_n 0, 1) := by decide +kernel
theorem dX4_withPlant_79 : decode cX4_withPlant 79 = .ok (.lload_n 1, 1) := by decide +kernel
theorem dX4_withPlant_80 : decode cX4_withPlant 80 = .ok (.iconst 0, 1) := by decide +kernel
theorem dX4_withPlant_81 : decode cX4_withPlant 81 = .ok (.invokevirtual 204, 3) := by decide +kernel
theorem dX4_withPlant_84 : decode cX4_withPlant 84 = .ok (.lstore_n 1, 1) := by decide +kernel
theorem dX4_withPlant_85 : decode cX4_withPlant 85 = .ok (.aload_n 0, 1) := by decide +kernel
theorem dX4_withPlant_86 : decode cX4_withPlant 86 = .ok (.lload_n 1, 1) := by decide +kernel
theorem dX4_withPlant_87 : decode cX4_withPlant 87 = .ok (.iconst 1, 1) := by decide +kernel
theorem dX4_withPlant_88 : decode cX4_withPlant 88 = .ok (.invokevirtual 204, 3) := by decide +kernel
theorem dX4_withPlant_91 : decode cX4_withPlant 91 = .ok (.lstore_n 1, 1) := by decide +kernel
theorem dX4_withPlant_92 : decode cX4_withPlant 92 = .ok (.ldc2_w 184, 3) := by decide +kernel
theorem dX4_withPlant_95 : decode cX4_withPlant 95 = .ok (.lload_n 1, 1) := by decide +kernel
theorem dX4_withPlant_96 : decode cX4_withPlant 96 = .ok (.lmul, 1) := by decide +kernel
theorem dX4_withPlant_97 : decode cX4_withPlant 97 = .ok (.aload_n 0, 1) := by decide +kernel
theorem dX4_withPlant_98 : decode cX4_withPlant 98 = .ok (.iconst 0, 1) := by decide +kernel
theorem dX4_withPlant_99 : decode cX4_withPlant 99 = .ok (.invokevirtual 208, 3) := by decide +kernel
theorem dX4_withPlant_102 : decode cX4_withPlant 102 = .ok (.ladd, 1) := by decide +kernel
theorem dX4_withPlant_103 : decode cX4_withPlant 103 = .ok (.lstore_n 1, 1) := by decide +kernel
theorem dX4_withPlant_104 : decode cX4_withPlant 104 = .ok (.bipush 10, 2) := by decide +kernel
theorem dX4_withPlant_106 : decode cX4_withPlant 106 = .ok (.istore_n 3, 1) := by decide +kernel
theorem dX4_withPlant_107 : decode cX4_withPlant 107 = .ok (.iload_n 3, 1) := by decide +kernel
theorem dX4_withPlant_108 : decode cX4_withPlant 108 = .ok (.bipush 16, 2) := by decide +kernel
theorem dX4_withPlant_110 : decode cX4_withPlant 110 = .ok (.if_icmp .ge 21, 3) := by decide +kernel
theorem dX4_withPlant_113 : decode cX4_withPlant 113 = .ok (.ldc2_w 184, 3) := by decide +kernel
theorem dX4_withPlant_116 : decode cX4_withPlant 116 = .ok (.lload_n 1, 1) := by decide +kernel
theorem dX4_withPlant_117 : decode cX4_withPlant 117 = .ok (.lmul, 1) := by decide +kernel
theorem dX4_withPlant_118 : decode cX4_withPlant 118 = .ok (.aload_n 0, 1) := by decide +kernel
theorem dX4_withPlant_119 : decode cX4_withPlant 119 = .ok (.iload_n 3, 1) := by decide +kernel
theorem dX4_withPlant_120 : decode cX4_withPlant 120 = .ok (.invokevirtual 208, 3) := by decide +kernel
theorem dX4_withPlant_123 : decode cX4_withPlant 123 = .ok (.ladd, 1) := by decide +kernel
theorem dX4_withPlant_124 : decode cX4_withPlant 124 = .ok (.lstore_n 1, 1) := by decide +kernel
theorem dX4_withPlant_125 : decode cX4_withPlant 125 = .ok (.iinc 3 1, 3) := by decide +kernel
theorem dX4_withPlant_128 : decode cX4_withPlant 128 = .ok (.goto (-21), 3) := by decide +kernel
theorem dX4_withPlant_131 : decode cX4_withPlant 131 = .ok (.lload_n 1, 1) := by decide +kernel
theorem dX4_withPlant_132 : decode cX4_withPlant 132 = .ok (.lreturn, 1) := by decide +kernel
theorem dX4_withRows_0 : decode cX4_withRows 0 = .ok (.iconst 0, 1) := by decide +kernel
theorem dX4_withRows_1 : decode cX4_withRows 1 = .ok (.istore 4, 2) := by decide +kernel
theorem dX4_withRows_3 : decode cX4_withRows 3 = .ok (.iload 4, 2) := by decide +kernel
theorem dX4_withRows_5 : decode cX4_withRows 5 = .ok (.aload_n 0, 1) := by decide +kernel
theorem dX4_withRows_6 : decode cX4_withRows 6 = .ok (.getfield 19, 3) := by decide +kernel
theorem dX4_withRows_9 : decode cX4_withRows 9 = .ok (.getfield 94, 3) := by decide +kernel
theorem dX4_withRows_12 : decode cX4_withRows 12 = .ok (.if_icmp .ge 47, 3) := by decide +kernel
theorem dX4_withRows_15 : decode cX4_withRows 15 = .ok (.iconst 0, 1) := by decide +kernel
theorem dX4_withRows_16 : decode cX4_withRows 16 = .ok (.istore 5, 2) := by decide +kernel
theorem dX4_withRows_18 : decode cX4_withRows 18 = .ok (.iload 5, 2) := by decide +kernel
theorem dX4_withRows_20 : decode cX4_withRows 20 = .ok (.aload_n 0, 1) := by decide +kernel
theorem dX4_withRows_21 : decode cX4_withRows 21 = .ok (.getfield 19, 3) := by decide +kernel
theorem dX4_withRows_24 : decode cX4_withRows 24 = .ok (.getfield 94, 3) := by decide +kernel
theorem dX4_withRows_27 : decode cX4_withRows 27 = .ok (.if_icmp .ge 26, 3) := by decide +kernel
theorem dX4_withRows_30 : decode cX4_withRows 30 = .ok (.ldc2_w 184, 3) := by decide +kernel
theorem dX4_withRows_33 : decode cX4_withRows 33 = .ok (.lload_n 1, 1) := by decide +kernel
theorem dX4_withRows_34 : decode cX4_withRows 34 = .ok (.lmul, 1) := by decide +kernel
theorem dX4_withRows_35 : decode cX4_withRows 35 = .ok (.aload_n 3, 1) := by decide +kernel
theorem dX4_withRows_36 : decode cX4_withRows 36 = .ok (.getfield 130, 3) := by decide +kernel
theorem dX4_withRows_39 : decode cX4_withRows 39 = .ok (.iload 4, 2) := by decide +kernel
theorem dX4_withRows_41 : decode cX4_withRows 41 = .ok (.aaload, 1) := by decide +kernel
theorem dX4_withRows_42 : decode cX4_withRows 42 = .ok (.iload 5, 2) := by decide +kernel
theorem dX4_withRows_44 : decode cX4_withRows 44 = .ok (.laload, 1) := by decide +kernel
theorem dX4_withRows_45 : decode cX4_withRows 45 = .ok (.ladd, 1) := by decide +kernel
theorem dX4_withRows_46 : decode cX4_withRows 46 = .ok (.lstore_n 1, 1) := by decide +kernel
theorem dX4_withRows_47 : decode cX4_withRows 47 = .ok (.iinc 5 1, 3) := by decide +kernel
theorem dX4_withRows_50 : decode cX4_withRows 50 = .ok (.goto (-32), 3) := by decide +kernel
theorem dX4_withRows_53 : decode cX4_withRows 53 = .ok (.iinc 4 1, 3) := by decide +kernel
theorem dX4_withRows_56 : decode cX4_withRows 56 = .ok (.goto (-53), 3) := by decide +kernel
theorem dX4_withRows_59 : decode cX4_withRows 59 = .ok (.lload_n 1, 1) := by decide +kernel
theorem dX4_withRows_60 : decode cX4_withRows 60 = .ok (.lreturn, 1) := by decide +kernel
set_option maxRecDepth 20000 in
theorem ggX4_withGains_X4_chain : GoodIn wsX4_withGains wsX4_chain := goodIn_r _ [8, 9, 10, 79, 80, 81, 82, 83, 84, 85, 86, 87, 88, 89, 90] (by decide +kernel) (by decide +kernel)
set_option maxRecDepth 20000 in
theorem gX4_withGains_X4_chain : GoodIn wsX4_withGains (wsV RX4 126 RX4 yX4_chain wsX4_chain) := goodIn_app (goodIn_of _ (by decide +kernel)) ggX4_withGains_X4_chain
set_option maxRecDepth 20000 in
theorem ggX4_withGains_X4_isFull : GoodIn wsX4_withGains wsX4_isFull := goodIn_r _ [14, 1, 2, 15, 79, 80, 81, 82, 83, 84, 85, 86, 87, 88, 89, 90, 91, 92, 93, 94, 95, 96, 97, 98, 99, 100, 101] (by decide +kernel) (by decide +kernel)
set_option maxRecDepth 20000 in
theorem gX4_withGains_X4_isFull : GoodIn wsX4_withGains (wsV RX4 137 RX4 yX4_isFull wsX4_isFull) := goodIn_app (goodIn_of _ (by decide +kernel)) ggX4_withGains_X4_isFull
set_option maxRecDepth 20000 in
theorem ggX4_withGains_X4_gain : GoodIn wsX4_withGains wsX4_gain := goodIn_r _ [19, 1, 20, 21, 22, 23, 24, 25, 26, 27, 28, 29, 30, 31, 32, 7, 33, 4, 5, 6, 8, 9, 10, 11, 12, 13, 14, 2, 15, 34, 35, 36, 37, 38, 39, 40, 41, 42, 43, 44, 45, 46, 79, 80, 81, 82, 83, 84, 85, 86, 87, 88, 89, 90, 94, 95, 96, 97, 98, 99, 100, 101, 91, 92, 93] (by decide +kernel) (by decide +kernel)
set_option maxRecDepth 20000 in
theorem gX4_withGains_X4_gain : GoodIn wsX4_withGains (wsV RX4 211 RX4 yX4_gain wsX4_gain) := goodIn_app (goodIn_of _ (by decide +kernel)) ggX4_withGains_X4_gain
set_option maxRecDepth 20000 in
theorem ggX4_withGains_X4_most : GoodIn wsX4_withGains wsX4_most := goodIn_r _ [50, 1, 2, 24, 4, 5, 6, 7, 8, 9, 10, 11, 12, 13, 14, 15, 79, 80, 81, 82, 83, 84, 85, 86, 87, 88, 89, 90, 91, 92, 93, 94, 95, 96, 97, 98, 99, 100, 101] (by decide +kernel) (by decide +kernel)
set_option maxRecDepth 20000 in
theorem gX4_withGains_X4_most : GoodIn wsX4_withGains (wsV RX4 215 RX4 yX4_most wsX4_most) := goodIn_app (goodIn_of _ (by decide +kernel)) ggX4_withGains_X4_most
set_option maxRecDepth 20000 in
theorem ggX4_withGains_X4_input : GoodIn wsX4_withGains wsX4_input := goodIn_r _ [54, 10, 24, 21, 22, 55, 23, 11, 12, 13, 7, 14, 1, 2, 15, 31, 32, 33, 56, 57, 58, 59, 60, 61, 62, 4, 5, 6, 8, 9, 63, 64, 65, 28, 66, 67, 68, 69, 70, 71, 72, 73, 74, 44, 45, 46, 34, 35, 36, 37, 38, 39, 40, 41, 42, 43, 79, 80, 81, 82, 83, 84, 85, 86, 87, 88, 89, 90, 94, 95, 96, 97, 98, 99, 100, 101, 91, 92, 93] (by decide +kernel) (by decide +kernel)
set_option maxRecDepth 20000 in
theorem gX4_withGains_X4_input : GoodIn wsX4_withGains (wsV RX4 219 RX4 yX4_input wsX4_input) := goodIn_app (goodIn_of _ (by decide +kernel)) ggX4_withGains_X4_input
set_option maxRecDepth 20000 in
theorem ggX4_withGains_X4_after : GoodIn wsX4_withGains wsX4_after := goodIn_r _ [78, 1, 20, 21, 24, 55, 23, 25, 26, 27, 28, 29, 30, 31, 32, 7, 33, 4, 5, 6, 8, 9, 10, 11, 12, 13, 14, 2, 15, 56, 57, 58, 59, 60, 22, 61, 62, 63, 64, 65, 66, 67, 68, 69, 70, 71, 72, 73, 74, 44, 45, 46, 34, 35, 36, 37, 38, 39, 40, 41, 42, 43, 79, 80, 81, 82, 83, 84, 85, 86, 87, 88, 89, 90, 94, 95, 96, 97, 98, 99, 100, 101, 91, 92, 93] (by decide +kernel) (by decide +kernel)
set_option maxRecDepth 20000 in
theorem gX4_withGains_X4_after : GoodIn wsX4_withGains (wsV RX4 223 RX4 yX4_after wsX4_after) := goodIn_app (goodIn_of _ (by decide +kernel)) ggX4_withGains_X4_after
theorem dX4_withGains_0 : decode cX4_withGains 0 = .ok (.aload_n 0, 1) := by decide +kernel
theorem dX4_withGains_1 : decode cX4_withGains 1 = .ok (.aload_n 0, 1) := by decide +kernel
theorem dX4_withGains_2 : decode cX4_withGains 2 = .ok (.iload_n 3, 1) := by decide +kernel
theorem dX4_withGains_3 : decode cX4_withGains 3 = .ok (.invokevirtual 126, 3) := by decide +kernel
theorem dX4_withGains_6 : decode cX4_withGains 6 = .ok (.invokevirtual 137, 3) := by decide +kernel
theorem dX4_withGains_9 : decode cX4_withGains 9 = .ok (.ifCond .ne 5, 3) := by decide +kernel
theorem dX4_withGains_12 : decode cX4_withGains 12 = .ok (.lload_n 1, 1) := by decide +kernel
theorem dX4_withGains_13 : decode cX4_withGains 13 = .ok (.lreturn, 1) := by decide +kernel
theorem dX4_withGains_14 : decode cX4_withGains 14 = .ok (.iconst 0, 1) := by decide +kernel
theorem dX4_withGains_15 : decode cX4_withGains 15 = .ok (.istore 4, 2) := by decide +kernel
theorem dX4_withGains_17 : decode cX4_withGains 17 = .ok (.iload 4, 2) := by decide +kernel
theorem dX4_withGains_19 : decode cX4_withGains 19 = .ok (.aload_n 0, 1) := by decide +kernel
theorem dX4_withGains_20 : decode cX4_withGains 20 = .ok (.getfield 19, 3) := by decide +kernel
theorem dX4_withGains_23 : decode cX4_withGains 23 = .ok (.getfield 94, 3) := by decide +kernel
theorem dX4_withGains_26 : decode cX4_withGains 26 = .ok (.if_icmp .ge 39, 3) := by decide +kernel
theorem dX4_withGains_29 : decode cX4_withGains 29 = .ok (.ldc2_w 184, 3) := by decide +kernel
theorem dX4_withGains_32 : decode cX4_withGains 32 = .ok (.lload_n 1, 1) := by decide +kernel
theorem dX4_withGains_33 : decode cX4_withGains 33 = .ok (.lmul, 1) := by decide +kernel
theorem dX4_withGains_34 : decode cX4_withGains 34 = .ok (.aload_n 0, 1) := by decide +kernel
theorem dX4_withGains_35 : decode cX4_withGains 35 = .ok (.iload_n 3, 1) := by decide +kernel
theorem dX4_withGains_36 : decode cX4_withGains 36 = .ok (.iload 4, 2) := by decide +kernel
theorem dX4_withGains_38 : decode cX4_withGains 38 = .ok (.iconst 0, 1) := by decide +kernel
theorem dX4_withGains_39 : decode cX4_withGains 39 = .ok (.invokevirtual 211, 3) := by decide +kernel
theorem dX4_withGains_42 : decode cX4_withGains 42 = .ok (.ladd, 1) := by decide +kernel
theorem dX4_withGains_43 : decode cX4_withGains 43 = .ok (.lstore_n 1, 1) := by decide +kernel
theorem dX4_withGains_44 : decode cX4_withGains 44 = .ok (.ldc2_w 184, 3) := by decide +kernel
theorem dX4_withGains_47 : decode cX4_withGains 47 = .ok (.lload_n 1, 1) := by decide +kernel
theorem dX4_withGains_48 : decode cX4_withGains 48 = .ok (.lmul, 1) := by decide +kernel
theorem dX4_withGains_49 : decode cX4_withGains 49 = .ok (.aload_n 0, 1) := by decide +kernel
theorem dX4_withGains_50 : decode cX4_withGains 50 = .ok (.iload_n 3, 1) := by decide +kernel
theorem dX4_withGains_51 : decode cX4_withGains 51 = .ok (.iload 4, 2) := by decide +kernel
theorem dX4_withGains_53 : decode cX4_withGains 53 = .ok (.iconst 1, 1) := by decide +kernel
theorem dX4_withGains_54 : decode cX4_withGains 54 = .ok (.invokevirtual 211, 3) := by decide +kernel
theorem dX4_withGains_57 : decode cX4_withGains 57 = .ok (.ladd, 1) := by decide +kernel
theorem dX4_withGains_58 : decode cX4_withGains 58 = .ok (.lstore_n 1, 1) := by decide +kernel
theorem dX4_withGains_59 : decode cX4_withGains 59 = .ok (.iinc 4 1, 3) := by decide +kernel
theorem dX4_withGains_62 : decode cX4_withGains 62 = .ok (.goto (-45), 3) := by decide +kernel
theorem dX4_withGains_65 : decode cX4_withGains 65 = .ok (.ldc2_w 184, 3) := by decide +kernel
theorem dX4_withGains_68 : decode cX4_withGains 68 = .ok (.lload_n 1, 1) := by decide +kernel
theorem dX4_withGains_69 : decode cX4_withGains 69 = .ok (.lmul, 1) := by decide +kernel
theorem dX4_withGains_70 : decode cX4_withGains 70 = .ok (.aload_n 0, 1) := by decide +kernel
theorem dX4_withGains_71 : decode cX4_withGains 71 = .ok (.iload_n 3, 1) := by decide +kernel
theorem dX4_withGains_72 : decode cX4_withGains 72 = .ok (.invokevirtual 215, 3) := by decide +kernel
theorem dX4_withGains_75 : decode cX4_withGains 75 = .ok (.ladd, 1) := by decide +kernel
theorem dX4_withGains_76 : decode cX4_withGains 76 = .ok (.lstore_n 1, 1) := by decide +kernel
theorem dX4_withGains_77 : decode cX4_withGains 77 = .ok (.iconst 0, 1) := by decide +kernel
theorem dX4_withGains_78 : decode cX4_withGains 78 = .ok (.istore 4, 2) := by decide +kernel
theorem dX4_withGains_80 : decode cX4_withGains 80 = .ok (.iload 4, 2) := by decide +kernel
theorem dX4_withGains_82 : decode cX4_withGains 82 = .ok (.iconst 3, 1) := by decide +kernel
theorem dX4_withGains_83 : decode cX4_withGains 83 = .ok (.if_icmp .ge 41, 3) := by decide +kernel
theorem dX4_withGains_86 : decode cX4_withGains 86 = .ok (.iload_n 3, 1) := by decide +kernel
theorem dX4_withGains_87 : decode cX4_withGains 87 = .ok (.ifCond .ne 37, 3) := by decide +kernel
theorem dX4_withGains_90 : decode cX4_withGains 90 = .ok (.ldc2_w 184, 3) := by decide +kernel
theorem dX4_withGains_93 : decode cX4_withGains 93 = .ok (.lload_n 1, 1) := by decide +kernel
theorem dX4_withGains_94 : decode cX4_withGains 94 = .ok (.lmul, 1) := by decide +kernel
theorem dX4_withGains_95 : decode cX4_withGains 95 = .ok (.aload_n 0, 1) := by decide +kernel
theorem dX4_withGains_96 : decode cX4_withGains 96 = .ok (.iload 4, 2) := by decide +kernel
theorem dX4_withGains_98 : decode cX4_withGains 98 = .ok (.iconst 0, 1) := by decide +kernel
theorem dX4_withGains_99 : decode cX4_withGains 99 = .ok (.invokevirtual 219, 3) := by decide +kernel
theorem dX4_withGains_102 : decode cX4_withGains 102 = .ok (.ladd, 1) := by decide +kernel
theorem dX4_withGains_103 : decode cX4_withGains 103 = .ok (.lstore_n 1, 1) := by decide +kernel
theorem dX4_withGains_104 : decode cX4_withGains 104 = .ok (.ldc2_w 184, 3) := by decide +kernel
theorem dX4_withGains_107 : decode cX4_withGains 107 = .ok (.lload_n 1, 1) := by decide +kernel
theorem dX4_withGains_108 : decode cX4_withGains 108 = .ok (.lmul, 1) := by decide +kernel
theorem dX4_withGains_109 : decode cX4_withGains 109 = .ok (.aload_n 0, 1) := by decide +kernel
theorem dX4_withGains_110 : decode cX4_withGains 110 = .ok (.iload 4, 2) := by decide +kernel
theorem dX4_withGains_112 : decode cX4_withGains 112 = .ok (.iconst 1, 1) := by decide +kernel
theorem dX4_withGains_113 : decode cX4_withGains 113 = .ok (.invokevirtual 219, 3) := by decide +kernel
theorem dX4_withGains_116 : decode cX4_withGains 116 = .ok (.ladd, 1) := by decide +kernel
theorem dX4_withGains_117 : decode cX4_withGains 117 = .ok (.lstore_n 1, 1) := by decide +kernel
theorem dX4_withGains_118 : decode cX4_withGains 118 = .ok (.iinc 4 1, 3) := by decide +kernel
theorem dX4_withGains_121 : decode cX4_withGains 121 = .ok (.goto (-41), 3) := by decide +kernel
theorem dX4_withGains_124 : decode cX4_withGains 124 = .ok (.iconst 1, 1) := by decide +kernel
theorem dX4_withGains_125 : decode cX4_withGains 125 = .ok (.istore 4, 2) := by decide +kernel
theorem dX4_withGains_127 : decode cX4_withGains 127 = .ok (.iload 4, 2) := by decide +kernel
theorem dX4_withGains_129 : decode cX4_withGains 129 = .ok (.iconst 3, 1) := by decide +kernel
theorem dX4_withGains_130 : decode cX4_withGains 130 = .ok (.if_icmp .ge 64, 3) := by decide +kernel
theorem dX4_withGains_133 : decode cX4_withGains 133 = .ok (.iconst 0, 1) := by decide +kernel
theorem dX4_withGains_134 : decode cX4_withGains 134 = .ok (.istore 5, 2) := by decide +kernel
theorem dX4_withGains_136 : decode cX4_withGains 136 = .ok (.iload 5, 2) := by decide +kernel
theorem dX4_withGains_138 : decode cX4_withGains 138 = .ok (.aload_n 0, 1) := by decide +kernel
theorem dX4_withGains_139 : decode cX4_withGains 139 = .ok (.getfield 19, 3) := by decide +kernel
theorem dX4_withGains_142 : decode cX4_withGains 142 = .ok (.getfield 94, 3) := by decide +kernel
theorem dX4_withGains_145 : decode cX4_withGains 145 = .ok (.if_icmp .ge 43, 3) := by decide +kernel
theorem dX4_withGains_148 : decode cX4_withGains 148 = .ok (.ldc2_w 184, 3) := by decide +kernel
theorem dX4_withGains_151 : decode cX4_withGains 151 = .ok (.lload_n 1, 1) := by decide +kernel
theorem dX4_withGains_152 : decode cX4_withGains 152 = .ok (.lmul, 1) := by decide +kernel
theorem dX4_withGains_153 : decode cX4_withGains 153 = .ok (.aload_n 0, 1) := by decide +kernel
theorem dX4_withGains_154 : decode cX4_withGains 154 = .ok (.iload_n 3, 1) := by decide +kernel
theorem dX4_withGains_155 : decode cX4_withGains 155 = .ok (.iload 4, 2) := by decide +kernel
theorem dX4_withGains_157 : decode cX4_withGains 157 = .ok (.iload 5, 2) := by decide +kernel
theorem dX4_withGains_159 : decode cX4_withGains 159 = .ok (.iconst 0, 1) := by decide +kernel
theorem dX4_withGains_160 : decode cX4_withGains 160 = .ok (.invokevirtual 223, 3) := by decide +kernel
theorem dX4_withGains_163 : decode cX4_withGains 163 = .ok (.ladd, 1) := by decide +kernel
theorem dX4_withGains_164 : decode cX4_withGains 164 = .ok (.lstore_n 1, 1) := by decide +kernel
theorem dX4_withGains_165 : decode cX4_withGains 165 = .ok (.ldc2_w 184, 3) := by decide +kernel
theorem dX4_withGains_168 : decode cX4_withGains 168 = .ok (.lload_n 1, 1) := by decide +kernel
theorem dX4_withGains_169 : decode cX4_withGains 169 = .ok (.lmul, 1) := by decide +kernel
theorem dX4_withGains_170 : decode cX4_withGains 170 = .ok (.aload_n 0, 1) := by decide +kernel
theorem dX4_withGains_171 : decode cX4_withGains 171 = .ok (.iload_n 3, 1) := by decide +kernel
theorem dX4_withGains_172 : decode cX4_withGains 172 = .ok (.iload 4, 2) := by decide +kernel
theorem dX4_withGains_174 : decode cX4_withGains 174 = .ok (.iload 5, 2) := by decide +kernel
theorem dX4_withGains_176 : decode cX4_withGains 176 = .ok (.iconst 1, 1) := by decide +kernel
theorem dX4_withGains_177 : decode cX4_withGains 177 = .ok (.invokevirtual 223, 3) := by decide +kernel
theorem dX4_withGains_180 : decode cX4_withGains 180 = .ok (.ladd, 1) := by decide +kernel
theorem dX4_withGains_181 : decode cX4_withGains 181 = .ok (.lstore_n 1, 1) := by decide +kernel
theorem dX4_withGains_182 : decode cX4_withGains 182 = .ok (.iinc 5 1, 3) := by decide +kernel
theorem dX4_withGains_185 : decode cX4_withGains 185 = .ok (.goto (-49), 3) := by decide +kernel
theorem dX4_withGains_188 : decode cX4_withGains 188 = .ok (.iinc 4 1, 3) := by decide +kernel
theorem dX4_withGains_191 : decode cX4_withGains 191 = .ok (.goto (-64), 3) := by decide +kernel
theorem dX4_withGains_194 : decode cX4_withGains 194 = .ok (.lload_n 1, 1) := by decide +kernel
theorem dX4_withGains_195 : decode cX4_withGains 195 = .ok (.lreturn, 1) := by decide +kernel
set_option maxRecDepth 20000 in
theorem ggX4_plantChanged_X0_build : GoodIn wsX4_plantChanged wsX0_build := goodIn_r _ [9, 10, 11, 12, 13, 14, 15, 16, 17, 18, 19, 20, 21, 22, 23, 24, 8, 25, 26, 27, 28, 29, 30, 31, 32, 33, 34, 35, 36, 37, 38, 39, 40, 41, 42, 43, 44, 45, 46, 47, 48, 49, 50, 51, 52, 53, 54, 67, 68, 69, 70, 71, 72, 73, 74, 75, 76, 77] (by decide +kernel) (by decide +kernel)
set_option maxRecDepth 20000 in
theorem gX4_plantChanged_X0_build : GoodIn wsX4_plantChanged (wsV RX4 227 RX0 yX0_build wsX0_build) := goodIn_app (goodIn_of _ (by decide +kernel)) ggX4_plantChanged_X0_build
theorem dX4_plantChanged_0 : decode cX4_plantChanged 0 = .ok (.aload_n 0, 1) := by decide +kernel
theorem dX4_plantChanged_1 : decode cX4_plantChanged 1 = .ok (.getfield 28, 3) := by decide +kernel
theorem dX4_plantChanged_4 : decode cX4_plantChanged 4 = .ok (.aload_n 0, 1) := by decide +kernel
theorem dX4_plantChanged_5 : decode cX4_plantChanged 5 = .ok (.getfield 19, 3) := by decide +kernel
theorem dX4_plantChanged_8 : decode cX4_plantChanged 8 = .ok (.invokevirtual 227, 3) := by decide +kernel
theorem dX4_plantChanged_11 : decode cX4_plantChanged 11 = .ok (.aload_n 0, 1) := by decide +kernel
theorem dX4_plantChanged_12 : decode cX4_plantChanged 12 = .ok (.getfield 32, 3) := by decide +kernel
theorem dX4_plantChanged_15 : decode cX4_plantChanged 15 = .ok (.aload_n 0, 1) := by decide +kernel
theorem dX4_plantChanged_16 : decode cX4_plantChanged 16 = .ok (.getfield 19, 3) := by decide +kernel
theorem dX4_plantChanged_19 : decode cX4_plantChanged 19 = .ok (.invokevirtual 227, 3) := by decide +kernel
theorem dX4_plantChanged_22 : decode cX4_plantChanged 22 = .ok (.aload_n 0, 1) := by decide +kernel
theorem dX4_plantChanged_23 : decode cX4_plantChanged 23 = .ok (.iconst 0, 1) := by decide +kernel
theorem dX4_plantChanged_24 : decode cX4_plantChanged 24 = .ok (.putfield 62, 3) := by decide +kernel
theorem dX4_plantChanged_27 : decode cX4_plantChanged 27 = .ok (.return_, 1) := by decide +kernel
theorem dX4_chain_0 : decode cX4_chain 0 = .ok (.iload_n 1, 1) := by decide +kernel
theorem dX4_chain_1 : decode cX4_chain 1 = .ok (.ifCond .eq 10, 3) := by decide +kernel
theorem dX4_chain_4 : decode cX4_chain 4 = .ok (.aload_n 0, 1) := by decide +kernel
theorem dX4_chain_5 : decode cX4_chain 5 = .ok (.getfield 32, 3) := by decide +kernel
theorem dX4_chain_8 : decode cX4_chain 8 = .ok (.goto 7, 3) := by decide +kernel
theorem dX4_chain_11 : decode cX4_chain 11 = .ok (.aload_n 0, 1) := by decide +kernel
theorem dX4_chain_12 : decode cX4_chain 12 = .ok (.getfield 28, 3) := by decide +kernel
theorem dX4_chain_15 : decode cX4_chain 15 = .ok (.areturn, 1) := by decide +kernel
theorem dX4_isFull_0 : decode cX4_isFull 0 = .ok (.aload_n 0, 1) := by decide +kernel
theorem dX4_isFull_1 : decode cX4_isFull 1 = .ok (.getfield 19, 3) := by decide +kernel
theorem dX4_isFull_4 : decode cX4_isFull 4 = .ok (.getfield 94, 3) := by decide +kernel
theorem dX4_isFull_7 : decode cX4_isFull 7 = .ok (.ifCond .le 21, 3) := by decide +kernel
theorem dX4_isFull_10 : decode cX4_isFull 10 = .ok (.aload_n 1, 1) := by decide +kernel
theorem dX4_isFull_11 : decode cX4_isFull 11 = .ok (.getfield 134, 3) := by decide +kernel
theorem dX4_isFull_14 : decode cX4_isFull 14 = .ok (.aload_n 0, 1) := by decide +kernel
theorem dX4_isFull_15 : decode cX4_isFull 15 = .ok (.getfield 19, 3) := by decide +kernel
theorem dX4_isFull_18 : decode cX4_isFull 18 = .ok (.getfield 94, 3) := by decide +kernel
theorem dX4_isFull_21 : decode cX4_isFull 21 = .ok (.if_icmp .ne 7, 3) := by decide +kernel
theorem dX4_isFull_24 : decode cX4_isFull 24 = .ok (.iconst 1, 1) := by decide +kernel
theorem dX4_isFull_25 : decode cX4_isFull 25 = .ok (.goto 4, 3) := by decide +kernel
theorem dX4_isFull_28 : decode cX4_isFull 28 = .ok (.iconst 0, 1) := by decide +kernel
theorem dX4_isFull_29 : decode cX4_isFull 29 = .ok (.ireturn, 1) := by decide +kernel
set_option maxRecDepth 20000 in
theorem ggX4_canRest_X4_copy : GoodIn wsX4_canRest wsX4_copy := goodIn_r _ [10] (by decide +kernel) (by decide +kernel)
set_option maxRecDepth 20000 in
theorem gX4_canRest_X4_copy : GoodIn wsX4_canRest (va_wsS RX4 118 yX4_copy wsX4_copy) := goodIn_app (goodIn_of _ (by decide +kernel)) ggX4_canRest_X4_copy
set_option maxRecDepth 20000 in
theorem ggX4_canRest_X3_carry : GoodIn wsX4_canRest wsX3_carry := goodIn_r _ [15, 16, 17, 18, 19, 14, 20, 21, 8, 9, 10, 46, 47, 48] (by decide +kernel) (by decide +kernel)
set_option maxRecDepth 20000 in
theorem gX4_canRest_X3_carry : GoodIn wsX4_canRest (wsV RX4 230 RX3 yX3_carry wsX3_carry) := goodIn_app (goodIn_of _ (by decide +kernel)) ggX4_canRest_X3_carry
set_option maxRecDepth 20000 in
theorem ggX4_canRest_X0_spans : GoodIn wsX4_canRest wsX0_spans := goodIn_r _ [26, 27, 28, 29, 25, 30, 31, 32, 9, 33, 49, 50, 51, 52, 53, 54, 55, 56] (by decide +kernel) (by decide +kernel)
set_option maxRecDepth 20000 in
theorem gX4_canRest_X0_spans : GoodIn wsX4_canRest (wsV RX4 234 RX0 yX0_spans wsX0_spans) := goodIn_app (goodIn_of _ (by decide +kernel)) ggX4_canRest_X0_spans
theorem dX4_canRest_0 : decode cX4_canRest 0 = .ok (.aload_n 0, 1) := by decide +kernel
theorem dX4_canRest_1 : decode cX4_canRest 1 = .ok (.getfield 42, 3) := by decide +kernel
theorem dX4_canRest_4 : decode cX4_canRest 4 = .ok (.aload_n 0, 1) := by decide +kernel
theorem dX4_canRest_5 : decode cX4_canRest 5 = .ok (.getfield 46, 3) := by decide +kernel
theorem dX4_canRest_8 : decode cX4_canRest 8 = .ok (.invokestatic 118, 3) := by decide +kernel
theorem dX4_canRest_11 : decode cX4_canRest 11 = .ok (.aload_n 0, 1) := by decide +kernel
theorem dX4_canRest_12 : decode cX4_canRest 12 = .ok (.getfield 19, 3) := by decide +kernel
theorem dX4_canRest_15 : decode cX4_canRest 15 = .ok (.iconst 0, 1) := by decide +kernel
theorem dX4_canRest_16 : decode cX4_canRest 16 = .ok (.aload_n 0, 1) := by decide +kernel
theorem dX4_canRest_17 : decode cX4_canRest 17 = .ok (.getfield 46, 3) := by decide +kernel
theorem dX4_canRest_20 : decode cX4_canRest 20 = .ok (.aload_n 0, 1) := by decide +kernel
theorem dX4_canRest_21 : decode cX4_canRest 21 = .ok (.getfield 19, 3) := by decide +kernel
theorem dX4_canRest_24 : decode cX4_canRest 24 = .ok (.getfield 94, 3) := by decide +kernel
theorem dX4_canRest_27 : decode cX4_canRest 27 = .ok (.invokevirtual 230, 3) := by decide +kernel
theorem dX4_canRest_30 : decode cX4_canRest 30 = .ok (.aload_n 0, 1) := by decide +kernel
theorem dX4_canRest_31 : decode cX4_canRest 31 = .ok (.getfield 28, 3) := by decide +kernel
theorem dX4_canRest_34 : decode cX4_canRest 34 = .ok (.aload_n 0, 1) := by decide +kernel
theorem dX4_canRest_35 : decode cX4_canRest 35 = .ok (.getfield 46, 3) := by decide +kernel
theorem dX4_canRest_38 : decode cX4_canRest 38 = .ok (.aload_n 0, 1) := by decide +kernel
theorem dX4_canRest_39 : decode cX4_canRest 39 = .ok (.getfield 28, 3) := by decide +kernel
theorem dX4_canRest_42 : decode cX4_canRest 42 = .ok (.getfield 134, 3) := by decide +kernel
theorem dX4_canRest_45 : decode cX4_canRest 45 = .ok (.invokevirtual 234, 3) := by decide +kernel
theorem dX4_canRest_48 : decode cX4_canRest 48 = .ok (.ireturn, 1) := by decide +kernel
set_option maxRecDepth 20000 in
theorem ggX4_goTheWay_X4_chain : GoodIn wsX4_goTheWay wsX4_chain := goodIn_r _ [12, 13, 14, 31, 32, 33, 34, 35, 36, 37, 38, 39, 40, 41, 42] (by decide +kernel) (by decide +kernel)
set_option maxRecDepth 20000 in
theorem gX4_goTheWay_X4_chain : GoodIn wsX4_goTheWay (wsV RX4 126 RX4 yX4_chain wsX4_chain) := goodIn_app (goodIn_of _ (by decide +kernel)) ggX4_goTheWay_X4_chain
set_option maxRecDepth 20000 in
theorem ggX4_goTheWay_X3_seen : GoodIn wsX4_goTheWay wsX3_seen := goodIn_r _ [19, 20, 51, 52, 53] (by decide +kernel) (by decide +kernel)
set_option maxRecDepth 20000 in
theorem gX4_goTheWay_X3_seen : GoodIn wsX4_goTheWay (wsV RX4 122 RX3 yX3_seen wsX3_seen) := goodIn_app (goodIn_of _ (by decide +kernel)) ggX4_goTheWay_X3_seen
set_option maxRecDepth 20000 in
theorem ggX4_goTheWay_X4_dot : GoodIn wsX4_goTheWay wsX4_dot := goodIn_r _ [23] (by decide +kernel) (by decide +kernel)
set_option maxRecDepth 20000 in
theorem gX4_goTheWay_X4_dot : GoodIn wsX4_goTheWay (va_wsS RX4 162 yX4_dot wsX4_dot) := goodIn_app (goodIn_of _ (by decide +kernel)) ggX4_goTheWay_X4_dot
set_option maxRecDepth 20000 in
theorem ggX4_goTheWay_X3_goOn : GoodIn wsX4_goTheWay wsX3_goOn := goodIn_r _ [27, 20, 51, 52, 53] (by decide +kernel) (by decide +kernel)
set_option maxRecDepth 20000 in
theorem gX4_goTheWay_X3_goOn : GoodIn wsX4_goTheWay (wsV RX4 110 RX3 yX3_goOn wsX3_goOn) := goodIn_app (goodIn_of _ (by decide +kernel)) ggX4_goTheWay_X3_goOn
set_option maxRecDepth 20000 in
theorem ggX4_goTheWay_X4_quotient : GoodIn wsX4_goTheWay wsX4_quotient := goodIn_r _ [30] (by decide +kernel) (by decide +kernel)
