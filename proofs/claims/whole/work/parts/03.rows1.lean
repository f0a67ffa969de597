theorem dX0_init_0 : decode cX0_init 0 = .ok (.aload_n 0, 1) := by decide +kernel
theorem dX0_init_1 : decode cX0_init 1 = .ok (.invokespecial 3, 3) := by decide +kernel
theorem dX0_init_4 : decode cX0_init 4 = .ok (.aload_n 0, 1) := by decide +kernel
theorem dX0_init_5 : decode cX0_init 5 = .ok (.iconst 3, 1) := by decide +kernel
theorem dX0_init_6 : decode cX0_init 6 = .ok (.iconst 3, 1) := by decide +kernel
theorem dX0_init_7 : decode cX0_init 7 = .ok (.multianewarray 9 2, 4) := by decide +kernel
theorem dX0_init_11 : decode cX0_init 11 = .ok (.putfield 11, 3) := by decide +kernel
theorem dX0_init_14 : decode cX0_init 14 = .ok (.aload_n 0, 1) := by decide +kernel
theorem dX0_init_15 : decode cX0_init 15 = .ok (.iconst 3, 1) := by decide +kernel
theorem dX0_init_16 : decode cX0_init 16 = .ok (.newarray .long, 2) := by decide +kernel
theorem dX0_init_18 : decode cX0_init 18 = .ok (.putfield 16, 3) := by decide +kernel
theorem dX0_init_21 : decode cX0_init 21 = .ok (.aload_n 0, 1) := by decide +kernel
theorem dX0_init_22 : decode cX0_init 22 = .ok (.iconst 0, 1) := by decide +kernel
theorem dX0_init_23 : decode cX0_init 23 = .ok (.putfield 20, 3) := by decide +kernel
theorem dX0_init_26 : decode cX0_init 26 = .ok (.aload_n 0, 1) := by decide +kernel
theorem dX0_init_27 : decode cX0_init 27 = .ok (.lconst 1, 1) := by decide +kernel
theorem dX0_init_28 : decode cX0_init 28 = .ok (.putfield 24, 3) := by decide +kernel
theorem dX0_init_31 : decode cX0_init 31 = .ok (.aload_n 0, 1) := by decide +kernel
theorem dX0_init_32 : decode cX0_init 32 = .ok (.iconst 3, 1) := by decide +kernel
theorem dX0_init_33 : decode cX0_init 33 = .ok (.iconst 3, 1) := by decide +kernel
theorem dX0_init_34 : decode cX0_init 34 = .ok (.multianewarray 9 2, 4) := by decide +kernel
theorem dX0_init_38 : decode cX0_init 38 = .ok (.putfield 28, 3) := by decide +kernel
theorem dX0_init_41 : decode cX0_init 41 = .ok (.aload_n 0, 1) := by decide +kernel
theorem dX0_init_42 : decode cX0_init 42 = .ok (.iconst 3, 1) := by decide +kernel
theorem dX0_init_43 : decode cX0_init 43 = .ok (.iconst 3, 1) := by decide +kernel
theorem dX0_init_44 : decode cX0_init 44 = .ok (.multianewarray 9 2, 4) := by decide +kernel
theorem dX0_init_48 : decode cX0_init 48 = .ok (.putfield 31, 3) := by decide +kernel
theorem dX0_init_51 : decode cX0_init 51 = .ok (.aload_n 0, 1) := by decide +kernel
theorem dX0_init_52 : decode cX0_init 52 = .ok (.iconst 3, 1) := by decide +kernel
theorem dX0_init_53 : decode cX0_init 53 = .ok (.newarray .long, 2) := by decide +kernel
theorem dX0_init_55 : decode cX0_init 55 = .ok (.putfield 34, 3) := by decide +kernel
theorem dX0_init_58 : decode cX0_init 58 = .ok (.aload_n 0, 1) := by decide +kernel
theorem dX0_init_59 : decode cX0_init 59 = .ok (.iload_n 1, 1) := by decide +kernel
theorem dX0_init_60 : decode cX0_init 60 = .ok (.putfield 37, 3) := by decide +kernel
theorem dX0_init_63 : decode cX0_init 63 = .ok (.return_, 1) := by decide +kernel
set_option maxRecDepth 20000 in
theorem ggX0_build_X3_goOn : GoodIn wsX0_build wsX3_goOn := goodIn_r _ [11, 12, 55, 56, 57] (by decide +kernel) (by decide +kernel)
set_option maxRecDepth 20000 in
theorem gX0_build_X3_goOn : GoodIn wsX0_build (wsV RX0 47 RX3 yX3_goOn wsX3_goOn) := goodIn_app (goodIn_of _ (by decide +kernel)) ggX0_build_X3_goOn
set_option maxRecDepth 20000 in
theorem ggX0_build_X0_fillBase : GoodIn wsX0_build wsX0_fillBase := goodIn_r _ [17, 1, 18, 4, 19, 20, 21, 22, 23, 24, 25, 26, 27, 28, 29, 30, 47, 48, 49, 50, 51, 52, 53, 54] (by decide +kernel) (by decide +kernel)
set_option maxRecDepth 20000 in
theorem gX0_build_X0_fillBase : GoodIn wsX0_build (wsV RX0 51 RX0 yX0_fillBase wsX0_fillBase) := goodIn_app (goodIn_of _ (by decide +kernel)) ggX0_build_X0_fillBase
set_option maxRecDepth 20000 in
theorem ggX0_build_X4_cross : GoodIn wsX0_build wsX4_cross := goodIn_r _ [22] (by decide +kernel) (by decide +kernel)
set_option maxRecDepth 20000 in
theorem gX0_build_X4_cross_n54 : GoodIn wsX0_build (wsX4_cross) := ggX0_build_X4_cross
set_option maxRecDepth 20000 in
theorem ggX0_build_X4_dot : GoodIn wsX0_build wsX4_dot := goodIn_r _ [26] (by decide +kernel) (by decide +kernel)
set_option maxRecDepth 20000 in
theorem gX0_build_X4_dot_n58 : GoodIn wsX0_build (wsX4_dot) := ggX0_build_X4_dot
set_option maxRecDepth 20000 in
theorem ggX0_build_X0_findGains : GoodIn wsX0_build wsX0_findGains := goodIn_r _ [34, 18, 3, 35, 19, 36, 29, 21, 30, 37, 38, 39, 10, 40, 41, 42, 8, 9, 11, 12, 23, 24, 43, 44, 45, 16, 46, 5, 25, 26, 47, 48, 49, 50, 51, 52, 53, 54, 55, 56, 57] (by decide +kernel) (by decide +kernel)
set_option maxRecDepth 20000 in
theorem gX0_build_X0_findGains : GoodIn wsX0_build (wsV RX0 62 RX0 yX0_findGains wsX0_findGains) := goodIn_app (goodIn_of _ (by decide +kernel)) ggX0_build_X0_findGains
theorem dX0_build_0 : decode cX0_build 0 = .ok (.iconst 0, 1) := by decide +kernel
theorem dX0_build_1 : decode cX0_build 1 = .ok (.istore_n 2, 1) := by decide +kernel
theorem dX0_build_2 : decode cX0_build 2 = .ok (.iload_n 2, 1) := by decide +kernel
theorem dX0_build_3 : decode cX0_build 3 = .ok (.iconst 3, 1) := by decide +kernel
theorem dX0_build_4 : decode cX0_build 4 = .ok (.if_icmp .ge 39, 3) := by decide +kernel
theorem dX0_build_7 : decode cX0_build 7 = .ok (.aload_n 0, 1) := by decide +kernel
theorem dX0_build_8 : decode cX0_build 8 = .ok (.getfield 11, 3) := by decide +kernel
theorem dX0_build_11 : decode cX0_build 11 = .ok (.iconst 0, 1) := by decide +kernel
theorem dX0_build_12 : decode cX0_build 12 = .ok (.aaload, 1) := by decide +kernel
theorem dX0_build_13 : decode cX0_build 13 = .ok (.iload_n 2, 1) := by decide +kernel
theorem dX0_build_14 : decode cX0_build 14 = .ok (.aload_n 1, 1) := by decide +kernel
theorem dX0_build_15 : decode cX0_build 15 = .ok (.getfield 41, 3) := by decide +kernel
theorem dX0_build_18 : decode cX0_build 18 = .ok (.aload_n 0, 1) := by decide +kernel
theorem dX0_build_19 : decode cX0_build 19 = .ok (.getfield 37, 3) := by decide +kernel
theorem dX0_build_22 : decode cX0_build 22 = .ok (.ifCond .eq 8, 3) := by decide +kernel
theorem dX0_build_25 : decode cX0_build 25 = .ok (.bipush 12, 2) := by decide +kernel
theorem dX0_build_27 : decode cX0_build 27 = .ok (.goto 5, 3) := by decide +kernel
theorem dX0_build_30 : decode cX0_build 30 = .ok (.bipush 9, 2) := by decide +kernel
theorem dX0_build_32 : decode cX0_build 32 = .ok (.iload_n 2, 1) := by decide +kernel
theorem dX0_build_33 : decode cX0_build 33 = .ok (.iadd, 1) := by decide +kernel
theorem dX0_build_34 : decode cX0_build 34 = .ok (.iaload, 1) := by decide +kernel
theorem dX0_build_35 : decode cX0_build 35 = .ok (.i2l, 1) := by decide +kernel
theorem dX0_build_36 : decode cX0_build 36 = .ok (.lastore, 1) := by decide +kernel
theorem dX0_build_37 : decode cX0_build 37 = .ok (.iinc 2 1, 3) := by decide +kernel
theorem dX0_build_40 : decode cX0_build 40 = .ok (.goto (-38), 3) := by decide +kernel
theorem dX0_build_43 : decode cX0_build 43 = .ok (.aload_n 1, 1) := by decide +kernel
theorem dX0_build_44 : decode cX0_build 44 = .ok (.aload_n 0, 1) := by decide +kernel
theorem dX0_build_45 : decode cX0_build 45 = .ok (.getfield 37, 3) := by decide +kernel
theorem dX0_build_48 : decode cX0_build 48 = .ok (.aload_n 0, 1) := by decide +kernel
theorem dX0_build_49 : decode cX0_build 49 = .ok (.getfield 11, 3) := by decide +kernel
theorem dX0_build_52 : decode cX0_build 52 = .ok (.iconst 0, 1) := by decide +kernel
theorem dX0_build_53 : decode cX0_build 53 = .ok (.aaload, 1) := by decide +kernel
theorem dX0_build_54 : decode cX0_build 54 = .ok (.aload_n 0, 1) := by decide +kernel
theorem dX0_build_55 : decode cX0_build 55 = .ok (.getfield 11, 3) := by decide +kernel
theorem dX0_build_58 : decode cX0_build 58 = .ok (.iconst 1, 1) := by decide +kernel
theorem dX0_build_59 : decode cX0_build 59 = .ok (.aaload, 1) := by decide +kernel
theorem dX0_build_60 : decode cX0_build 60 = .ok (.invokevirtual 47, 3) := by decide +kernel
theorem dX0_build_63 : decode cX0_build 63 = .ok (.aload_n 1, 1) := by decide +kernel
theorem dX0_build_64 : decode cX0_build 64 = .ok (.aload_n 0, 1) := by decide +kernel
theorem dX0_build_65 : decode cX0_build 65 = .ok (.getfield 37, 3) := by decide +kernel
theorem dX0_build_68 : decode cX0_build 68 = .ok (.aload_n 0, 1) := by decide +kernel
theorem dX0_build_69 : decode cX0_build 69 = .ok (.getfield 11, 3) := by decide +kernel
theorem dX0_build_72 : decode cX0_build 72 = .ok (.iconst 1, 1) := by decide +kernel
theorem dX0_build_73 : decode cX0_build 73 = .ok (.aaload, 1) := by decide +kernel
theorem dX0_build_74 : decode cX0_build 74 = .ok (.aload_n 0, 1) := by decide +kernel
theorem dX0_build_75 : decode cX0_build 75 = .ok (.getfield 11, 3) := by decide +kernel
theorem dX0_build_78 : decode cX0_build 78 = .ok (.iconst 2, 1) := by decide +kernel
theorem dX0_build_79 : decode cX0_build 79 = .ok (.aaload, 1) := by decide +kernel
theorem dX0_build_80 : decode cX0_build 80 = .ok (.invokevirtual 47, 3) := by decide +kernel
theorem dX0_build_83 : decode cX0_build 83 = .ok (.aload_n 0, 1) := by decide +kernel
theorem dX0_build_84 : decode cX0_build 84 = .ok (.invokevirtual 51, 3) := by decide +kernel
theorem dX0_build_87 : decode cX0_build 87 = .ok (.aload_n 0, 1) := by decide +kernel
theorem dX0_build_88 : decode cX0_build 88 = .ok (.getfield 28, 3) := by decide +kernel
theorem dX0_build_91 : decode cX0_build 91 = .ok (.iconst 1, 1) := by decide +kernel
theorem dX0_build_92 : decode cX0_build 92 = .ok (.aaload, 1) := by decide +kernel
theorem dX0_build_93 : decode cX0_build 93 = .ok (.aload_n 0, 1) := by decide +kernel
theorem dX0_build_94 : decode cX0_build 94 = .ok (.getfield 28, 3) := by decide +kernel
theorem dX0_build_97 : decode cX0_build 97 = .ok (.iconst 2, 1) := by decide +kernel
theorem dX0_build_98 : decode cX0_build 98 = .ok (.aaload, 1) := by decide +kernel
theorem dX0_build_99 : decode cX0_build 99 = .ok (.aload_n 0, 1) := by decide +kernel
theorem dX0_build_100 : decode cX0_build 100 = .ok (.getfield 31, 3) := by decide +kernel
theorem dX0_build_103 : decode cX0_build 103 = .ok (.iconst 0, 1) := by decide +kernel
theorem dX0_build_104 : decode cX0_build 104 = .ok (.aaload, 1) := by decide +kernel
theorem dX0_build_105 : decode cX0_build 105 = .ok (.invokestatic 54, 3) := by decide +kernel
theorem dX0_build_108 : decode cX0_build 108 = .ok (.aload_n 0, 1) := by decide +kernel
theorem dX0_build_109 : decode cX0_build 109 = .ok (.getfield 28, 3) := by decide +kernel
theorem dX0_build_112 : decode cX0_build 112 = .ok (.iconst 2, 1) := by decide +kernel
theorem dX0_build_113 : decode cX0_build 113 = .ok (.aaload, 1) := by decide +kernel
theorem dX0_build_114 : decode cX0_build 114 = .ok (.aload_n 0, 1) := by decide +kernel
theorem dX0_build_115 : decode cX0_build 115 = .ok (.getfield 28, 3) := by decide +kernel
theorem dX0_build_118 : decode cX0_build 118 = .ok (.iconst 0, 1) := by decide +kernel
theorem dX0_build_119 : decode cX0_build 119 = .ok (.aaload, 1) := by decide +kernel
theorem dX0_build_120 : decode cX0_build 120 = .ok (.aload_n 0, 1) := by decide +kernel
theorem dX0_build_121 : decode cX0_build 121 = .ok (.getfield 31, 3) := by decide +kernel
theorem dX0_build_124 : decode cX0_build 124 = .ok (.iconst 1, 1) := by decide +kernel
theorem dX0_build_125 : decode cX0_build 125 = .ok (.aaload, 1) := by decide +kernel
theorem dX0_build_126 : decode cX0_build 126 = .ok (.invokestatic 54, 3) := by decide +kernel
theorem dX0_build_129 : decode cX0_build 129 = .ok (.aload_n 0, 1) := by decide +kernel
theorem dX0_build_130 : decode cX0_build 130 = .ok (.getfield 28, 3) := by decide +kernel
theorem dX0_build_133 : decode cX0_build 133 = .ok (.iconst 0, 1) := by decide +kernel
theorem dX0_build_134 : decode cX0_build 134 = .ok (.aaload, 1) := by decide +kernel
theorem dX0_build_135 : decode cX0_build 135 = .ok (.aload_n 0, 1) := by decide +kernel
theorem dX0_build_136 : decode cX0_build 136 = .ok (.getfield 28, 3) := by decide +kernel
theorem dX0_build_139 : decode cX0_build 139 = .ok (.iconst 1, 1) := by decide +kernel
theorem dX0_build_140 : decode cX0_build 140 = .ok (.aaload, 1) := by decide +kernel
theorem dX0_build_141 : decode cX0_build 141 = .ok (.aload_n 0, 1) := by decide +kernel
theorem dX0_build_142 : decode cX0_build 142 = .ok (.getfield 31, 3) := by decide +kernel
theorem dX0_build_145 : decode cX0_build 145 = .ok (.iconst 2, 1) := by decide +kernel
theorem dX0_build_146 : decode cX0_build 146 = .ok (.aaload, 1) := by decide +kernel
theorem dX0_build_147 : decode cX0_build 147 = .ok (.invokestatic 54, 3) := by decide +kernel
theorem dX0_build_150 : decode cX0_build 150 = .ok (.aload_n 0, 1) := by decide +kernel
theorem dX0_build_151 : decode cX0_build 151 = .ok (.aload_n 0, 1) := by decide +kernel
theorem dX0_build_152 : decode cX0_build 152 = .ok (.getfield 28, 3) := by decide +kernel
theorem dX0_build_155 : decode cX0_build 155 = .ok (.iconst 0, 1) := by decide +kernel
theorem dX0_build_156 : decode cX0_build 156 = .ok (.aaload, 1) := by decide +kernel
theorem dX0_build_157 : decode cX0_build 157 = .ok (.aload_n 0, 1) := by decide +kernel
theorem dX0_build_158 : decode cX0_build 158 = .ok (.getfield 31, 3) := by decide +kernel
theorem dX0_build_161 : decode cX0_build 161 = .ok (.iconst 0, 1) := by decide +kernel
theorem dX0_build_162 : decode cX0_build 162 = .ok (.aaload, 1) := by decide +kernel
theorem dX0_build_163 : decode cX0_build 163 = .ok (.invokestatic 58, 3) := by decide +kernel
theorem dX0_build_166 : decode cX0_build 166 = .ok (.putfield 24, 3) := by decide +kernel
theorem dX0_build_169 : decode cX0_build 169 = .ok (.aload_n 0, 1) := by decide +kernel
theorem dX0_build_170 : decode cX0_build 170 = .ok (.aload_n 1, 1) := by decide +kernel
theorem dX0_build_171 : decode cX0_build 171 = .ok (.invokevirtual 62, 3) := by decide +kernel
theorem dX0_build_174 : decode cX0_build 174 = .ok (.return_, 1) := by decide +kernel
set_option maxRecDepth 20000 in
theorem ggX0_share_X4_dot : GoodIn wsX0_share wsX4_dot := goodIn_r _ [4] (by decide +kernel) (by decide +kernel)
set_option maxRecDepth 20000 in
theorem gX0_share_X4_dot_n58 : GoodIn wsX0_share (wsX4_dot) := ggX0_share_X4_dot
theorem dX0_share_0 : decode cX0_share 0 = .ok (.aload_n 0, 1) := by decide +kernel
theorem dX0_share_1 : decode cX0_share 1 = .ok (.getfield 31, 3) := by decide +kernel
theorem dX0_share_4 : decode cX0_share 4 = .ok (.iload_n 1, 1) := by decide +kernel
theorem dX0_share_5 : decode cX0_share 5 = .ok (.aaload, 1) := by decide +kernel
theorem dX0_share_6 : decode cX0_share 6 = .ok (.aload_n 2, 1) := by decide +kernel
theorem dX0_share_7 : decode cX0_share 7 = .ok (.invokestatic 58, 3) := by decide +kernel
theorem dX0_share_10 : decode cX0_share 10 = .ok (.lreturn, 1) := by decide +kernel
set_option maxRecDepth 20000 in
theorem ggX0_spans_X0_share : GoodIn wsX0_spans wsX0_share := goodIn_r _ [5, 6, 7, 8, 9, 10, 11, 12, 13, 14, 15, 16, 17] (by decide +kernel) (by decide +kernel)
set_option maxRecDepth 20000 in
theorem gX0_spans_X0_share : GoodIn wsX0_spans (wsV RX0 66 RX0 yX0_share wsX0_share) := goodIn_app (goodIn_of _ (by decide +kernel)) ggX0_spans_X0_share
theorem dX0_spans_0 : decode cX0_spans 0 = .ok (.iload_n 2, 1) := by decide +kernel
theorem dX0_spans_1 : decode cX0_spans 1 = .ok (.istore_n 3, 1) := by decide +kernel
theorem dX0_spans_2 : decode cX0_spans 2 = .ok (.iload_n 3, 1) := by decide +kernel
theorem dX0_spans_3 : decode cX0_spans 3 = .ok (.iconst 3, 1) := by decide +kernel
theorem dX0_spans_4 : decode cX0_spans 4 = .ok (.if_icmp .ge 22, 3) := by decide +kernel
theorem dX0_spans_7 : decode cX0_spans 7 = .ok (.aload_n 0, 1) := by decide +kernel
theorem dX0_spans_8 : decode cX0_spans 8 = .ok (.iload_n 3, 1) := by decide +kernel
theorem dX0_spans_9 : decode cX0_spans 9 = .ok (.aload_n 1, 1) := by decide +kernel
theorem dX0_spans_10 : decode cX0_spans 10 = .ok (.invokevirtual 66, 3) := by decide +kernel
theorem dX0_spans_13 : decode cX0_spans 13 = .ok (.lconst 0, 1) := by decide +kernel
theorem dX0_spans_14 : decode cX0_spans 14 = .ok (.lcmp, 1) := by decide +kernel
theorem dX0_spans_15 : decode cX0_spans 15 = .ok (.ifCond .eq 5, 3) := by decide +kernel
theorem dX0_spans_18 : decode cX0_spans 18 = .ok (.iconst 0, 1) := by decide +kernel
theorem dX0_spans_19 : decode cX0_spans 19 = .ok (.ireturn, 1) := by decide +kernel
theorem dX0_spans_20 : decode cX0_spans 20 = .ok (.iinc 3 1, 3) := by decide +kernel
theorem dX0_spans_23 : decode cX0_spans 23 = .ok (.goto (-21), 3) := by decide +kernel
theorem dX0_spans_26 : decode cX0_spans 26 = .ok (.iconst 1, 1) := by decide +kernel
theorem dX0_spans_27 : decode cX0_spans 27 = .ok (.ireturn, 1) := by decide +kernel
set_option maxRecDepth 20000 in
theorem ggX0_fillBase_X4_cross : GoodIn wsX0_fillBase wsX4_cross := goodIn_r _ [7] (by decide +kernel) (by decide +kernel)
set_option maxRecDepth 20000 in
theorem gX0_fillBase_X4_cross_n54 : GoodIn wsX0_fillBase (wsX4_cross) := ggX0_fillBase_X4_cross
set_option maxRecDepth 20000 in
theorem ggX0_fillBase_X4_copy : GoodIn wsX0_fillBase wsX4_copy := goodIn_r _ [9] (by decide +kernel) (by decide +kernel)
set_option maxRecDepth 20000 in
theorem gX0_fillBase_X4_copy_n70 : GoodIn wsX0_fillBase (wsX4_copy) := ggX0_fillBase_X4_copy
set_option maxRecDepth 20000 in
theorem ggX0_fillBase_X4_dot : GoodIn wsX0_fillBase wsX4_dot := goodIn_r _ [11] (by decide +kernel) (by decide +kernel)
set_option maxRecDepth 20000 in
theorem gX0_fillBase_X4_dot_n58 : GoodIn wsX0_fillBase (wsX4_dot) := ggX0_fillBase_X4_dot
set_option maxRecDepth 20000 in
theorem ggX0_fillBase_X4_firstNotZero : GoodIn wsX0_fillBase wsX4_firstNotZero := goodIn_r _ [13] (by decide +kernel) (by decide +kernel)
set_option maxRecDepth 20000 in
theorem gX0_fillBase_X4_firstNotZero_n74 : GoodIn wsX0_fillBase (wsX4_firstNotZero) := ggX0_fillBase_X4_firstNotZero
set_option maxRecDepth 20000 in
theorem ggX0_fillBase_X4_setUnit : GoodIn wsX0_fillBase wsX4_setUnit := goodIn_r _ [15] (by decide +kernel) (by decide +kernel)
set_option maxRecDepth 20000 in
theorem gX0_fillBase_X4_setUnit_n78 : GoodIn wsX0_fillBase (wsX4_setUnit) := ggX0_fillBase_X4_setUnit
theorem dX0_fillBase_0 : decode cX0_fillBase 0 = .ok (.aload_n 0, 1) := by decide +kernel
theorem dX0_fillBase_1 : decode cX0_fillBase 1 = .ok (.getfield 11, 3) := by decide +kernel
theorem dX0_fillBase_4 : decode cX0_fillBase 4 = .ok (.iconst 0, 1) := by decide +kernel
theorem dX0_fillBase_5 : decode cX0_fillBase 5 = .ok (.aaload, 1) := by decide +kernel
theorem dX0_fillBase_6 : decode cX0_fillBase 6 = .ok (.aload_n 0, 1) := by decide +kernel
theorem dX0_fillBase_7 : decode cX0_fillBase 7 = .ok (.getfield 11, 3) := by decide +kernel
theorem dX0_fillBase_10 : decode cX0_fillBase 10 = .ok (.iconst 1, 1) := by decide +kernel
theorem dX0_fillBase_11 : decode cX0_fillBase 11 = .ok (.aaload, 1) := by decide +kernel
theorem dX0_fillBase_12 : decode cX0_fillBase 12 = .ok (.aload_n 0, 1) := by decide +kernel
theorem dX0_fillBase_13 : decode cX0_fillBase 13 = .ok (.getfield 34, 3) := by decide +kernel
theorem dX0_fillBase_16 : decode cX0_fillBase 16 = .ok (.invokestatic 54, 3) := by decide +kernel
theorem dX0_fillBase_19 : decode cX0_fillBase 19 = .ok (.iconst 0, 1) := by decide +kernel
theorem dX0_fillBase_20 : decode cX0_fillBase 20 = .ok (.istore_n 1, 1) := by decide +kernel
theorem dX0_fillBase_21 : decode cX0_fillBase 21 = .ok (.iload_n 1, 1) := by decide +kernel
theorem dX0_fillBase_22 : decode cX0_fillBase 22 = .ok (.iconst 3, 1) := by decide +kernel
theorem dX0_fillBase_23 : decode cX0_fillBase 23 = .ok (.if_icmp .ge 24, 3) := by decide +kernel
theorem dX0_fillBase_26 : decode cX0_fillBase 26 = .ok (.aload_n 0, 1) := by decide +kernel
theorem dX0_fillBase_27 : decode cX0_fillBase 27 = .ok (.getfield 11, 3) := by decide +kernel
theorem dX0_fillBase_30 : decode cX0_fillBase 30 = .ok (.iload_n 1, 1) := by decide +kernel
theorem dX0_fillBase_31 : decode cX0_fillBase 31 = .ok (.aaload, 1) := by decide +kernel
theorem dX0_fillBase_32 : decode cX0_fillBase 32 = .ok (.aload_n 0, 1) := by decide +kernel
theorem dX0_fillBase_33 : decode cX0_fillBase 33 = .ok (.getfield 28, 3) := by decide +kernel
theorem dX0_fillBase_36 : decode cX0_fillBase 36 = .ok (.iload_n 1, 1) := by decide +kernel
theorem dX0_fillBase_37 : decode cX0_fillBase 37 = .ok (.aaload, 1) := by decide +kernel
theorem dX0_fillBase_38 : decode cX0_fillBase 38 = .ok (.invokestatic 70, 3) := by decide +kernel
theorem dX0_fillBase_41 : decode cX0_fillBase 41 = .ok (.iinc 1 1, 3) := by decide +kernel
theorem dX0_fillBase_44 : decode cX0_fillBase 44 = .ok (.goto (-23), 3) := by decide +kernel
theorem dX0_fillBase_47 : decode cX0_fillBase 47 = .ok (.aload_n 0, 1) := by decide +kernel
theorem dX0_fillBase_48 : decode cX0_fillBase 48 = .ok (.getfield 34, 3) := by decide +kernel
theorem dX0_fillBase_51 : decode cX0_fillBase 51 = .ok (.aload_n 0, 1) := by decide +kernel
theorem dX0_fillBase_52 : decode cX0_fillBase 52 = .ok (.getfield 11, 3) := by decide +kernel
theorem dX0_fillBase_55 : decode cX0_fillBase 55 = .ok (.iconst 2, 1) := by decide +kernel
theorem dX0_fillBase_56 : decode cX0_fillBase 56 = .ok (.aaload, 1) := by decide +kernel
theorem dX0_fillBase_57 : decode cX0_fillBase 57 = .ok (.invokestatic 58, 3) := by decide +kernel
theorem dX0_fillBase_60 : decode cX0_fillBase 60 = .ok (.lconst 0, 1) := by decide +kernel
theorem dX0_fillBase_61 : decode cX0_fillBase 61 = .ok (.lcmp, 1) := by decide +kernel
theorem dX0_fillBase_62 : decode cX0_fillBase 62 = .ok (.ifCond .eq 9, 3) := by decide +kernel
theorem dX0_fillBase_65 : decode cX0_fillBase 65 = .ok (.aload_n 0, 1) := by decide +kernel
theorem dX0_fillBase_66 : decode cX0_fillBase 66 = .ok (.iconst 3, 1) := by decide +kernel
theorem dX0_fillBase_67 : decode cX0_fillBase 67 = .ok (.putfield 20, 3) := by decide +kernel
theorem dX0_fillBase_70 : decode cX0_fillBase 70 = .ok (.return_, 1) := by decide +kernel
theorem dX0_fillBase_71 : decode cX0_fillBase 71 = .ok (.aload_n 0, 1) := by decide +kernel
theorem dX0_fillBase_72 : decode cX0_fillBase 72 = .ok (.getfield 34, 3) := by decide +kernel
theorem dX0_fillBase_75 : decode cX0_fillBase 75 = .ok (.invokestatic 74, 3) := by decide +kernel
theorem dX0_fillBase_78 : decode cX0_fillBase 78 = .ok (.istore_n 1, 1) := by decide +kernel
theorem dX0_fillBase_79 : decode cX0_fillBase 79 = .ok (.iload_n 1, 1) := by decide +kernel
theorem dX0_fillBase_80 : decode cX0_fillBase 80 = .ok (.iconst 3, 1) := by decide +kernel
theorem dX0_fillBase_81 : decode cX0_fillBase 81 = .ok (.if_icmp .ge 19, 3) := by decide +kernel
theorem dX0_fillBase_84 : decode cX0_fillBase 84 = .ok (.aload_n 0, 1) := by decide +kernel
theorem dX0_fillBase_85 : decode cX0_fillBase 85 = .ok (.iconst 2, 1) := by decide +kernel
theorem dX0_fillBase_86 : decode cX0_fillBase 86 = .ok (.putfield 20, 3) := by decide +kernel
theorem dX0_fillBase_89 : decode cX0_fillBase 89 = .ok (.aload_n 0, 1) := by decide +kernel
theorem dX0_fillBase_90 : decode cX0_fillBase 90 = .ok (.getfield 28, 3) := by decide +kernel
theorem dX0_fillBase_93 : decode cX0_fillBase 93 = .ok (.iconst 2, 1) := by decide +kernel
theorem dX0_fillBase_94 : decode cX0_fillBase 94 = .ok (.aaload, 1) := by decide +kernel
theorem dX0_fillBase_95 : decode cX0_fillBase 95 = .ok (.iload_n 1, 1) := by decide +kernel
theorem dX0_fillBase_96 : decode cX0_fillBase 96 = .ok (.invokestatic 78, 3) := by decide +kernel
theorem dX0_fillBase_99 : decode cX0_fillBase 99 = .ok (.return_, 1) := by decide +kernel
theorem dX0_fillBase_100 : decode cX0_fillBase 100 = .ok (.aload_n 0, 1) := by decide +kernel
theorem dX0_fillBase_101 : decode cX0_fillBase 101 = .ok (.getfield 11, 3) := by decide +kernel
theorem dX0_fillBase_104 : decode cX0_fillBase 104 = .ok (.iconst 0, 1) := by decide +kernel
theorem dX0_fillBase_105 : decode cX0_fillBase 105 = .ok (.aaload, 1) := by decide +kernel
theorem dX0_fillBase_106 : decode cX0_fillBase 106 = .ok (.invokestatic 74, 3) := by decide +kernel
theorem dX0_fillBase_109 : decode cX0_fillBase 109 = .ok (.istore_n 2, 1) := by decide +kernel
theorem dX0_fillBase_110 : decode cX0_fillBase 110 = .ok (.aload_n 0, 1) := by decide +kernel
theorem dX0_fillBase_111 : decode cX0_fillBase 111 = .ok (.iload_n 2, 1) := by decide +kernel
theorem dX0_fillBase_112 : decode cX0_fillBase 112 = .ok (.iconst 3, 1) := by decide +kernel
theorem dX0_fillBase_113 : decode cX0_fillBase 113 = .ok (.if_icmp .ge 7, 3) := by decide +kernel
theorem dX0_fillBase_116 : decode cX0_fillBase 116 = .ok (.iconst 1, 1) := by decide +kernel
theorem dX0_fillBase_117 : decode cX0_fillBase 117 = .ok (.goto 4, 3) := by decide +kernel
theorem dX0_fillBase_120 : decode cX0_fillBase 120 = .ok (.iconst 0, 1) := by decide +kernel
theorem dX0_fillBase_121 : decode cX0_fillBase 121 = .ok (.putfield 20, 3) := by decide +kernel
theorem dX0_fillBase_124 : decode cX0_fillBase 124 = .ok (.aload_n 0, 1) := by decide +kernel
theorem dX0_fillBase_125 : decode cX0_fillBase 125 = .ok (.getfield 20, 3) := by decide +kernel
theorem dX0_fillBase_128 : decode cX0_fillBase 128 = .ok (.ifCond .ne 15, 3) := by decide +kernel
theorem dX0_fillBase_131 : decode cX0_fillBase 131 = .ok (.iconst 0, 1) := by decide +kernel
theorem dX0_fillBase_132 : decode cX0_fillBase 132 = .ok (.istore_n 2, 1) := by decide +kernel
theorem dX0_fillBase_133 : decode cX0_fillBase 133 = .ok (.aload_n 0, 1) := by decide +kernel
theorem dX0_fillBase_134 : decode cX0_fillBase 134 = .ok (.getfield 28, 3) := by decide +kernel
theorem dX0_fillBase_137 : decode cX0_fillBase 137 = .ok (.iconst 0, 1) := by decide +kernel
theorem dX0_fillBase_138 : decode cX0_fillBase 138 = .ok (.aaload, 1) := by decide +kernel
theorem dX0_fillBase_139 : decode cX0_fillBase 139 = .ok (.iload_n 2, 1) := by decide +kernel
theorem dX0_fillBase_140 : decode cX0_fillBase 140 = .ok (.invokestatic 78, 3) := by decide +kernel
theorem dX0_fillBase_143 : decode cX0_fillBase 143 = .ok (.aload_n 0, 1) := by decide +kernel
theorem dX0_fillBase_144 : decode cX0_fillBase 144 = .ok (.getfield 28, 3) := by decide +kernel
theorem dX0_fillBase_147 : decode cX0_fillBase 147 = .ok (.iconst 1, 1) := by decide +kernel
theorem dX0_fillBase_148 : decode cX0_fillBase 148 = .ok (.aaload, 1) := by decide +kernel
theorem dX0_fillBase_149 : decode cX0_fillBase 149 = .ok (.iload_n 2, 1) := by decide +kernel
theorem dX0_fillBase_150 : decode cX0_fillBase 150 = .ok (.iconst 1, 1) := by decide +kernel
theorem dX0_fillBase_151 : decode cX0_fillBase 151 = .ok (.iadd, 1) := by decide +kernel
theorem dX0_fillBase_152 : decode cX0_fillBase 152 = .ok (.iconst 3, 1) := by decide +kernel
theorem dX0_fillBase_153 : decode cX0_fillBase 153 = .ok (.irem, 1) := by decide +kernel
theorem dX0_fillBase_154 : decode cX0_fillBase 154 = .ok (.invokestatic 78, 3) := by decide +kernel
theorem dX0_fillBase_157 : decode cX0_fillBase 157 = .ok (.aload_n 0, 1) := by decide +kernel
theorem dX0_fillBase_158 : decode cX0_fillBase 158 = .ok (.getfield 28, 3) := by decide +kernel
theorem dX0_fillBase_161 : decode cX0_fillBase 161 = .ok (.iconst 2, 1) := by decide +kernel
theorem dX0_fillBase_162 : decode cX0_fillBase 162 = .ok (.aaload, 1) := by decide +kernel
theorem dX0_fillBase_163 : decode cX0_fillBase 163 = .ok (.iload_n 2, 1) := by decide +kernel
theorem dX0_fillBase_164 : decode cX0_fillBase 164 = .ok (.iconst 2, 1) := by decide +kernel
theorem dX0_fillBase_165 : decode cX0_fillBase 165 = .ok (.iadd, 1) := by decide +kernel
theorem dX0_fillBase_166 : decode cX0_fillBase 166 = .ok (.iconst 3, 1) := by decide +kernel
theorem dX0_fillBase_167 : decode cX0_fillBase 167 = .ok (.irem, 1) := by decide +kernel
theorem dX0_fillBase_168 : decode cX0_fillBase 168 = .ok (.invokestatic 78, 3) := by decide +kernel
theorem dX0_fillBase_171 : decode cX0_fillBase 171 = .ok (.return_, 1) := by decide +kernel
set_option maxRecDepth 20000 in
theorem ggX0_findGains_X4_setUnit : GoodIn wsX0_findGains wsX4_setUnit := goodIn_r _ [8] (by decide +kernel) (by decide +kernel)
set_option maxRecDepth 20000 in
theorem gX0_findGains_X4_setUnit_n78 : GoodIn wsX0_findGains (wsX4_setUnit) := ggX0_findGains_X4_setUnit
set_option maxRecDepth 20000 in
theorem ggX0_findGains_X3_carry : GoodIn wsX0_findGains wsX3_carry := goodIn_r _ [13, 14, 15, 16, 17, 12, 18, 19, 20, 7, 21, 38, 39, 40] (by decide +kernel) (by decide +kernel)
set_option maxRecDepth 20000 in
theorem gX0_findGains_X3_carry : GoodIn wsX0_findGains (wsV RX0 85 RX3 yX3_carry wsX3_carry) := goodIn_app (goodIn_of _ (by decide +kernel)) ggX0_findGains_X3_carry
set_option maxRecDepth 20000 in
theorem ggX0_findGains_X0_share : GoodIn wsX0_findGains wsX0_share := goodIn_r _ [26, 27, 28, 7, 29, 30, 31, 32, 33, 34, 35, 36, 37] (by decide +kernel) (by decide +kernel)
set_option maxRecDepth 20000 in
theorem gX0_findGains_X0_share : GoodIn wsX0_findGains (wsV RX0 66 RX0 yX0_share wsX0_share) := goodIn_app (goodIn_of _ (by decide +kernel)) ggX0_findGains_X0_share
theorem dX0_findGains_0 : decode cX0_findGains 0 = .ok (.iconst 0, 1) := by decide +kernel
theorem dX0_findGains_1 : decode cX0_findGains 1 = .ok (.istore_n 2, 1) := by decide +kernel
theorem dX0_findGains_2 : decode cX0_findGains 2 = .ok (.iload_n 2, 1) := by decide +kernel
theorem dX0_findGains_3 : decode cX0_findGains 3 = .ok (.iconst 3, 1) := by decide +kernel
theorem dX0_findGains_4 : decode cX0_findGains 4 = .ok (.if_icmp .ge 85, 3) := by decide +kernel
theorem dX0_findGains_7 : decode cX0_findGains 7 = .ok (.aload_n 0, 1) := by decide +kernel
theorem dX0_findGains_8 : decode cX0_findGains 8 = .ok (.getfield 34, 3) := by decide +kernel
theorem dX0_findGains_11 : decode cX0_findGains 11 = .ok (.iload_n 2, 1) := by decide +kernel
theorem dX0_findGains_12 : decode cX0_findGains 12 = .ok (.invokestatic 78, 3) := by decide +kernel
theorem dX0_findGains_15 : decode cX0_findGains 15 = .ok (.aload_n 1, 1) := by decide +kernel
theorem dX0_findGains_16 : decode cX0_findGains 16 = .ok (.aload_n 0, 1) := by decide +kernel
theorem dX0_findGains_17 : decode cX0_findGains 17 = .ok (.getfield 37, 3) := by decide +kernel
theorem dX0_findGains_20 : decode cX0_findGains 20 = .ok (.aload_n 0, 1) := by decide +kernel
theorem dX0_findGains_21 : decode cX0_findGains 21 = .ok (.getfield 34, 3) := by decide +kernel
theorem dX0_findGains_24 : decode cX0_findGains 24 = .ok (.aload_n 1, 1) := by decide +kernel
theorem dX0_findGains_25 : decode cX0_findGains 25 = .ok (.getfield 82, 3) := by decide +kernel
theorem dX0_findGains_28 : decode cX0_findGains 28 = .ok (.invokevirtual 85, 3) := by decide +kernel
theorem dX0_findGains_31 : decode cX0_findGains 31 = .ok (.aload_n 1, 1) := by decide +kernel
theorem dX0_findGains_32 : decode cX0_findGains 32 = .ok (.getfield 82, 3) := by decide +kernel
theorem dX0_findGains_35 : decode cX0_findGains 35 = .ok (.ifCond .le 18, 3) := by decide +kernel
theorem dX0_findGains_38 : decode cX0_findGains 38 = .ok (.aload_n 0, 1) := by decide +kernel
theorem dX0_findGains_39 : decode cX0_findGains 39 = .ok (.getfield 20, 3) := by decide +kernel
theorem dX0_findGains_42 : decode cX0_findGains 42 = .ok (.aload_n 1, 1) := by decide +kernel
theorem dX0_findGains_43 : decode cX0_findGains 43 = .ok (.getfield 82, 3) := by decide +kernel
theorem dX0_findGains_46 : decode cX0_findGains 46 = .ok (.if_icmp .ne 7, 3) := by decide +kernel
theorem dX0_findGains_49 : decode cX0_findGains 49 = .ok (.iconst 1, 1) := by decide +kernel
theorem dX0_findGains_50 : decode cX0_findGains 50 = .ok (.goto 4, 3) := by decide +kernel
theorem dX0_findGains_53 : decode cX0_findGains 53 = .ok (.iconst 0, 1) := by decide +kernel
theorem dX0_findGains_54 : decode cX0_findGains 54 = .ok (.istore_n 3, 1) := by decide +kernel
theorem dX0_findGains_55 : decode cX0_findGains 55 = .ok (.aload_n 0, 1) := by decide +kernel
theorem dX0_findGains_56 : decode cX0_findGains 56 = .ok (.getfield 16, 3) := by decide +kernel
theorem dX0_findGains_59 : decode cX0_findGains 59 = .ok (.iload_n 2, 1) := by decide +kernel
theorem dX0_findGains_60 : decode cX0_findGains 60 = .ok (.iload_n 3, 1) := by decide +kernel
theorem dX0_findGains_61 : decode cX0_findGains 61 = .ok (.ifCond .eq 20, 3) := by decide +kernel
theorem dX0_findGains_64 : decode cX0_findGains 64 = .ok (.aload_n 0, 1) := by decide +kernel
theorem dX0_findGains_65 : decode cX0_findGains 65 = .ok (.aload_n 1, 1) := by decide +kernel
theorem dX0_findGains_66 : decode cX0_findGains 66 = .ok (.getfield 82, 3) := by decide +kernel
theorem dX0_findGains_69 : decode cX0_findGains 69 = .ok (.iconst 1, 1) := by decide +kernel
theorem dX0_findGains_70 : decode cX0_findGains 70 = .ok (.isub, 1) := by decide +kernel
theorem dX0_findGains_71 : decode cX0_findGains 71 = .ok (.aload_n 0, 1) := by decide +kernel
theorem dX0_findGains_72 : decode cX0_findGains 72 = .ok (.getfield 34, 3) := by decide +kernel
theorem dX0_findGains_75 : decode cX0_findGains 75 = .ok (.invokevirtual 66, 3) := by decide +kernel
theorem dX0_findGains_78 : decode cX0_findGains 78 = .ok (.goto 4, 3) := by decide +kernel
theorem dX0_findGains_81 : decode cX0_findGains 81 = .ok (.lconst 0, 1) := by decide +kernel
theorem dX0_findGains_82 : decode cX0_findGains 82 = .ok (.lastore, 1) := by decide +kernel
theorem dX0_findGains_83 : decode cX0_findGains 83 = .ok (.iinc 2 1, 3) := by decide +kernel
theorem dX0_findGains_86 : decode cX0_findGains 86 = .ok (.goto (-84), 3) := by decide +kernel
theorem dX0_findGains_89 : decode cX0_findGains 89 = .ok (.return_, 1) := by decide +kernel
theorem dX1_init_0 : decode cX1_init 0 = .ok (.aload_n 0, 1) := by decide +kernel
theorem dX1_init_1 : decode cX1_init 1 = .ok (.invokespecial 3, 3) := by decide +kernel
theorem dX1_init_4 : decode cX1_init 4 = .ok (.aload_n 0, 1) := by decide +kernel
theorem dX1_init_5 : decode cX1_init 5 = .ok (.bipush 46, 2) := by decide +kernel
theorem dX1_init_7 : decode cX1_init 7 = .ok (.newarray .int, 2) := by decide +kernel
theorem dX1_init_9 : decode cX1_init 9 = .ok (.putfield 9, 3) := by decide +kernel
theorem dX1_init_12 : decode cX1_init 12 = .ok (.aload_n 0, 1) := by decide +kernel
theorem dX1_init_13 : decode cX1_init 13 = .ok (.iconst 0, 1) := by decide +kernel
theorem dX1_init_14 : decode cX1_init 14 = .ok (.putfield 15, 3) := by decide +kernel
theorem dX1_init_17 : decode cX1_init 17 = .ok (.aload_n 0, 1) := by decide +kernel
theorem dX1_init_18 : decode cX1_init 18 = .ok (.bipush 15, 2) := by decide +kernel
theorem dX1_init_20 : decode cX1_init 20 = .ok (.newarray .int, 2) := by decide +kernel
theorem dX1_init_22 : decode cX1_init 22 = .ok (.putfield 19, 3) := by decide +kernel
theorem dX1_init_25 : decode cX1_init 25 = .ok (.aload_n 0, 1) := by decide +kernel
theorem dX1_init_26 : decode cX1_init 26 = .ok (.iconst 0, 1) := by decide +kernel
theorem dX1_init_27 : decode cX1_init 27 = .ok (.putfield 22, 3) := by decide +kernel
theorem dX1_init_30 : decode cX1_init 30 = .ok (.aload_n 0, 1) := by decide +kernel
theorem dX1_init_31 : decode cX1_init 31 = .ok (.iconst 0, 1) := by decide +kernel
theorem dX1_init_32 : decode cX1_init 32 = .ok (.putfield 25, 3) := by decide +kernel
theorem dX1_init_35 : decode cX1_init 35 = .ok (.aload_n 0, 1) := by decide +kernel
theorem dX1_init_36 : decode cX1_init 36 = .ok (.iconst 0, 1) := by decide +kernel
theorem dX1_init_37 : decode cX1_init 37 = .ok (.putfield 28, 3) := by decide +kernel
theorem dX1_init_40 : decode cX1_init 40 = .ok (.return_, 1) := by decide +kernel
theorem dX1_write_0 : decode cX1_write 0 = .ok (.aload_n 0, 1) := by decide +kernel
theorem dX1_write_1 : decode cX1_write 1 = .ok (.getfield 15, 3) := by decide +kernel
theorem dX1_write_4 : decode cX1_write 4 = .ok (.bipush 46, 2) := by decide +kernel
theorem dX1_write_6 : decode cX1_write 6 = .ok (.if_icmp .ge 23, 3) := by decide +kernel
theorem dX1_write_9 : decode cX1_write 9 = .ok (.aload_n 0, 1) := by decide +kernel
theorem dX1_write_10 : decode cX1_write 10 = .ok (.getfield 9, 3) := by decide +kernel
theorem dX1_write_13 : decode cX1_write 13 = .ok (.aload_n 0, 1) := by decide +kernel
theorem dX1_write_14 : decode cX1_write 14 = .ok (.getfield 15, 3) := by decide +kernel
theorem dX1_write_17 : decode cX1_write 17 = .ok (.iload_n 1, 1) := by decide +kernel
theorem dX1_write_18 : decode cX1_write 18 = .ok (.iastore, 1) := by decide +kernel
theorem dX1_write_19 : decode cX1_write 19 = .ok (.aload_n 0, 1) := by decide +kernel
theorem dX1_write_20 : decode cX1_write 20 = .ok (.dup, 1) := by decide +kernel
theorem dX1_write_21 : decode cX1_write 21 = .ok (.getfield 15, 3) := by decide +kernel
theorem dX1_write_24 : decode cX1_write 24 = .ok (.iconst 1, 1) := by decide +kernel
theorem dX1_write_25 : decode cX1_write 25 = .ok (.iadd, 1) := by decide +kernel
theorem dX1_write_26 : decode cX1_write 26 = .ok (.putfield 15, 3) := by decide +kernel
theorem dX1_write_29 : decode cX1_write 29 = .ok (.return_, 1) := by decide +kernel
set_option maxRecDepth 20000 in
theorem ggX1_wellBegun_X1_takes : GoodIn wsX1_wellBegun wsX1_takes := goodIn_r _ [10, 3, 11, 12, 13, 9, 14, 1, 15, 16, 17, 18, 2, 19, 20, 21, 22, 23, 24, 25, 26, 27, 28, 29, 30, 31, 32, 33, 34, 35, 36, 37, 38, 39, 40, 41] (by decide +kernel) (by decide +kernel)
set_option maxRecDepth 20000 in
theorem gX1_wellBegun_X1_takes : GoodIn wsX1_wellBegun (wsV RX1 31 RX1 yX1_takes wsX1_takes) := goodIn_app (goodIn_of _ (by decide +kernel)) ggX1_wellBegun_X1_takes
theorem dX1_wellBegun_0 : decode cX1_wellBegun 0 = .ok (.aload_n 0, 1) := by decide +kernel
theorem dX1_wellBegun_1 : decode cX1_wellBegun 1 = .ok (.iconst 0, 1) := by decide +kernel
theorem dX1_wellBegun_2 : decode cX1_wellBegun 2 = .ok (.putfield 22, 3) := by decide +kernel
theorem dX1_wellBegun_5 : decode cX1_wellBegun 5 = .ok (.aload_n 0, 1) := by decide +kernel
theorem dX1_wellBegun_6 : decode cX1_wellBegun 6 = .ok (.iconst 0, 1) := by decide +kernel
theorem dX1_wellBegun_7 : decode cX1_wellBegun 7 = .ok (.putfield 25, 3) := by decide +kernel
theorem dX1_wellBegun_10 : decode cX1_wellBegun 10 = .ok (.aload_n 0, 1) := by decide +kernel
theorem dX1_wellBegun_11 : decode cX1_wellBegun 11 = .ok (.iconst 0, 1) := by decide +kernel
theorem dX1_wellBegun_12 : decode cX1_wellBegun 12 = .ok (.putfield 28, 3) := by decide +kernel
theorem dX1_wellBegun_15 : decode cX1_wellBegun 15 = .ok (.iconst 0, 1) := by decide +kernel
theorem dX1_wellBegun_16 : decode cX1_wellBegun 16 = .ok (.istore_n 1, 1) := by decide +kernel
theorem dX1_wellBegun_17 : decode cX1_wellBegun 17 = .ok (.iload_n 1, 1) := by decide +kernel
theorem dX1_wellBegun_18 : decode cX1_wellBegun 18 = .ok (.aload_n 0, 1) := by decide +kernel
theorem dX1_wellBegun_19 : decode cX1_wellBegun 19 = .ok (.getfield 15, 3) := by decide +kernel
theorem dX1_wellBegun_22 : decode cX1_wellBegun 22 = .ok (.if_icmp .ge 22, 3) := by decide +kernel
theorem dX1_wellBegun_25 : decode cX1_wellBegun 25 = .ok (.aload_n 0, 1) := by decide +kernel
theorem dX1_wellBegun_26 : decode cX1_wellBegun 26 = .ok (.aload_n 0, 1) := by decide +kernel
theorem dX1_wellBegun_27 : decode cX1_wellBegun 27 = .ok (.getfield 9, 3) := by decide +kernel
theorem dX1_wellBegun_30 : decode cX1_wellBegun 30 = .ok (.iload_n 1, 1) := by decide +kernel
theorem dX1_wellBegun_31 : decode cX1_wellBegun 31 = .ok (.iaload, 1) := by decide +kernel
theorem dX1_wellBegun_32 : decode cX1_wellBegun 32 = .ok (.invokevirtual 31, 3) := by decide +kernel
theorem dX1_wellBegun_35 : decode cX1_wellBegun 35 = .ok (.ifCond .eq 9, 3) := by decide +kernel
theorem dX1_wellBegun_38 : decode cX1_wellBegun 38 = .ok (.iinc 1 1, 3) := by decide +kernel
theorem dX1_wellBegun_41 : decode cX1_wellBegun 41 = .ok (.goto (-24), 3) := by decide +kernel
theorem dX1_wellBegun_44 : decode cX1_wellBegun 44 = .ok (.iload_n 1, 1) := by decide +kernel
theorem dX1_wellBegun_45 : decode cX1_wellBegun 45 = .ok (.ireturn, 1) := by decide +kernel
set_option maxRecDepth 20000 in
theorem ggX1_isPlant_X1_wellBegun : GoodIn wsX1_isPlant wsX1_wellBegun := goodIn_r _ [8, 2, 3, 9, 1, 10, 11, 12, 13, 7, 14, 15, 16, 17, 18, 19, 20, 21, 22, 23, 24, 25, 26, 27, 28, 29, 30, 31, 32, 33, 34, 35, 36, 37, 38, 39, 40, 41, 42, 43, 44, 45] (by decide +kernel) (by decide +kernel)
set_option maxRecDepth 20000 in
theorem gX1_isPlant_X1_wellBegun : GoodIn wsX1_isPlant (wsV RX1 35 RX1 yX1_wellBegun wsX1_wellBegun) := goodIn_app (goodIn_of _ (by decide +kernel)) ggX1_isPlant_X1_wellBegun
set_option maxRecDepth 20000 in
theorem ggX1_isPlant_X1_needed : GoodIn wsX1_isPlant wsX1_needed := goodIn_r _ [26, 2, 40, 41, 42, 43, 44, 45] (by decide +kernel) (by decide +kernel)
set_option maxRecDepth 20000 in
theorem gX1_isPlant_X1_needed : GoodIn wsX1_isPlant (wsV RX1 39 RX1 yX1_needed wsX1_needed) := goodIn_app (goodIn_of _ (by decide +kernel)) ggX1_isPlant_X1_needed
theorem dX1_isPlant_0 : decode cX1_isPlant 0 = .ok (.aload_n 0, 1) := by decide +kernel
theorem dX1_isPlant_1 : decode cX1_isPlant 1 = .ok (.invokevirtual 35, 3) := by decide +kernel
theorem dX1_isPlant_4 : decode cX1_isPlant 4 = .ok (.aload_n 0, 1) := by decide +kernel
theorem dX1_isPlant_5 : decode cX1_isPlant 5 = .ok (.getfield 15, 3) := by decide +kernel
theorem dX1_isPlant_8 : decode cX1_isPlant 8 = .ok (.if_icmp .ne 25, 3) := by decide +kernel
theorem dX1_isPlant_11 : decode cX1_isPlant 11 = .ok (.aload_n 0, 1) := by decide +kernel
theorem dX1_isPlant_12 : decode cX1_isPlant 12 = .ok (.getfield 22, 3) := by decide +kernel
theorem dX1_isPlant_15 : decode cX1_isPlant 15 = .ok (.ifCond .le 18, 3) := by decide +kernel
theorem dX1_isPlant_18 : decode cX1_isPlant 18 = .ok (.aload_n 0, 1) := by decide +kernel
theorem dX1_isPlant_19 : decode cX1_isPlant 19 = .ok (.getfield 25, 3) := by decide +kernel
theorem dX1_isPlant_22 : decode cX1_isPlant 22 = .ok (.aload_n 0, 1) := by decide +kernel
theorem dX1_isPlant_23 : decode cX1_isPlant 23 = .ok (.invokevirtual 39, 3) := by decide +kernel
theorem dX1_isPlant_26 : decode cX1_isPlant 26 = .ok (.if_icmp .ne 7, 3) := by decide +kernel
theorem dX1_isPlant_29 : decode cX1_isPlant 29 = .ok (.iconst 1, 1) := by decide +kernel
theorem dX1_isPlant_30 : decode cX1_isPlant 30 = .ok (.goto 4, 3) := by decide +kernel
theorem dX1_isPlant_33 : decode cX1_isPlant 33 = .ok (.iconst 0, 1) := by decide +kernel
theorem dX1_isPlant_34 : decode cX1_isPlant 34 = .ok (.ireturn, 1) := by decide +kernel
set_option maxRecDepth 20000 in
theorem ggX1_copyTo_X3_hasCell : GoodIn wsX1_copyTo wsX3_hasCell := goodIn_r _ [9, 10, 11, 12, 13] (by decide +kernel) (by decide +kernel)
set_option maxRecDepth 20000 in
theorem gX1_copyTo_X3_hasCell : GoodIn wsX1_copyTo (wsV RX1 48 RX3 yX3_hasCell wsX3_hasCell) := goodIn_app (goodIn_of _ (by decide +kernel)) ggX1_copyTo_X3_hasCell
theorem dX1_copyTo_0 : decode cX1_copyTo 0 = .ok (.iconst 0, 1) := by decide +kernel
theorem dX1_copyTo_1 : decode cX1_copyTo 1 = .ok (.istore_n 2, 1) := by decide +kernel
theorem dX1_copyTo_2 : decode cX1_copyTo 2 = .ok (.iload_n 2, 1) := by decide +kernel
theorem dX1_copyTo_3 : decode cX1_copyTo 3 = .ok (.bipush 15, 2) := by decide +kernel
theorem dX1_copyTo_5 : decode cX1_copyTo 5 = .ok (.if_icmp .ge 16, 3) := by decide +kernel
theorem dX1_copyTo_8 : decode cX1_copyTo 8 = .ok (.aload_n 1, 1) := by decide +kernel
theorem dX1_copyTo_9 : decode cX1_copyTo 9 = .ok (.getfield 42, 3) := by decide +kernel
theorem dX1_copyTo_12 : decode cX1_copyTo 12 = .ok (.iload_n 2, 1) := by decide +kernel
theorem dX1_copyTo_13 : decode cX1_copyTo 13 = .ok (.iconst 0, 1) := by decide +kernel
theorem dX1_copyTo_14 : decode cX1_copyTo 14 = .ok (.iastore, 1) := by decide +kernel
theorem dX1_copyTo_15 : decode cX1_copyTo 15 = .ok (.iinc 2 1, 3) := by decide +kernel
theorem dX1_copyTo_18 : decode cX1_copyTo 18 = .ok (.goto (-16), 3) := by decide +kernel
theorem dX1_copyTo_21 : decode cX1_copyTo 21 = .ok (.aload_n 1, 1) := by decide +kernel
theorem dX1_copyTo_22 : decode cX1_copyTo 22 = .ok (.aload_n 0, 1) := by decide +kernel
theorem dX1_copyTo_23 : decode cX1_copyTo 23 = .ok (.getfield 22, 3) := by decide +kernel
theorem dX1_copyTo_26 : decode cX1_copyTo 26 = .ok (.putfield 47, 3) := by decide +kernel
theorem dX1_copyTo_29 : decode cX1_copyTo 29 = .ok (.iconst 0, 1) := by decide +kernel
theorem dX1_copyTo_30 : decode cX1_copyTo 30 = .ok (.istore_n 2, 1) := by decide +kernel
theorem dX1_copyTo_31 : decode cX1_copyTo 31 = .ok (.iconst 0, 1) := by decide +kernel
theorem dX1_copyTo_32 : decode cX1_copyTo 32 = .ok (.istore_n 3, 1) := by decide +kernel
theorem dX1_copyTo_33 : decode cX1_copyTo 33 = .ok (.iload_n 3, 1) := by decide +kernel
theorem dX1_copyTo_34 : decode cX1_copyTo 34 = .ok (.bipush 15, 2) := by decide +kernel
theorem dX1_copyTo_36 : decode cX1_copyTo 36 = .ok (.if_icmp .ge 32, 3) := by decide +kernel
theorem dX1_copyTo_39 : decode cX1_copyTo 39 = .ok (.aload_n 1, 1) := by decide +kernel
theorem dX1_copyTo_40 : decode cX1_copyTo 40 = .ok (.iload_n 3, 1) := by decide +kernel
theorem dX1_copyTo_41 : decode cX1_copyTo 41 = .ok (.invokevirtual 48, 3) := by decide +kernel
theorem dX1_copyTo_44 : decode cX1_copyTo 44 = .ok (.ifCond .eq 18, 3) := by decide +kernel
theorem dX1_copyTo_47 : decode cX1_copyTo 47 = .ok (.aload_n 1, 1) := by decide +kernel
theorem dX1_copyTo_48 : decode cX1_copyTo 48 = .ok (.getfield 42, 3) := by decide +kernel
theorem dX1_copyTo_51 : decode cX1_copyTo 51 = .ok (.iload_n 3, 1) := by decide +kernel
theorem dX1_copyTo_52 : decode cX1_copyTo 52 = .ok (.aload_n 0, 1) := by decide +kernel
theorem dX1_copyTo_53 : decode cX1_copyTo 53 = .ok (.getfield 19, 3) := by decide +kernel
theorem dX1_copyTo_56 : decode cX1_copyTo 56 = .ok (.iload_n 2, 1) := by decide +kernel
theorem dX1_copyTo_57 : decode cX1_copyTo 57 = .ok (.iaload, 1) := by decide +kernel
theorem dX1_copyTo_58 : decode cX1_copyTo 58 = .ok (.iastore, 1) := by decide +kernel
theorem dX1_copyTo_59 : decode cX1_copyTo 59 = .ok (.iinc 2 1, 3) := by decide +kernel
theorem dX1_copyTo_62 : decode cX1_copyTo 62 = .ok (.iinc 3 1, 3) := by decide +kernel
theorem dX1_copyTo_65 : decode cX1_copyTo 65 = .ok (.goto (-32), 3) := by decide +kernel
theorem dX1_copyTo_68 : decode cX1_copyTo 68 = .ok (.return_, 1) := by decide +kernel
theorem dX1_needed_0 : decode cX1_needed 0 = .ok (.aload_n 0, 1) := by decide +kernel
theorem dX1_needed_1 : decode cX1_needed 1 = .ok (.getfield 22, 3) := by decide +kernel
theorem dX1_needed_4 : decode cX1_needed 4 = .ok (.aload_n 0, 1) := by decide +kernel
theorem dX1_needed_5 : decode cX1_needed 5 = .ok (.getfield 22, 3) := by decide +kernel
theorem dX1_needed_8 : decode cX1_needed 8 = .ok (.imul, 1) := by decide +kernel
theorem dX1_needed_9 : decode cX1_needed 9 = .ok (.iconst 2, 1) := by decide +kernel
theorem dX1_needed_10 : decode cX1_needed 10 = .ok (.aload_n 0, 1) := by decide +kernel
theorem dX1_needed_11 : decode cX1_needed 11 = .ok (.getfield 22, 3) := by decide +kernel
theorem dX1_needed_14 : decode cX1_needed 14 = .ok (.imul, 1) := by decide +kernel
theorem dX1_needed_15 : decode cX1_needed 15 = .ok (.iadd, 1) := by decide +kernel
theorem dX1_needed_16 : decode cX1_needed 16 = .ok (.ireturn, 1) := by decide +kernel
set_option maxRecDepth 20000 in
theorem ggX1_takes_X1_takesOrder : GoodIn wsX1_takes wsX1_takesOrder := goodIn_r _ [6, 7, 1, 30, 31, 32, 33, 34, 35] (by decide +kernel) (by decide +kernel)
set_option maxRecDepth 20000 in
theorem gX1_takes_X1_takesOrder : GoodIn wsX1_takes (wsV RX1 51 RX1 yX1_takesOrder wsX1_takesOrder) := goodIn_app (goodIn_of _ (by decide +kernel)) ggX1_takes_X1_takesOrder
set_option maxRecDepth 20000 in
theorem ggX1_takes_X1_takesSign : GoodIn wsX1_takes wsX1_takesSign := goodIn_r _ [11, 12, 7, 1, 13, 14, 15, 5, 16, 30, 31, 32, 33, 34, 35] (by decide +kernel) (by decide +kernel)
set_option maxRecDepth 20000 in
theorem gX1_takes_X1_takesSign : GoodIn wsX1_takes (wsV RX1 54 RX1 yX1_takesSign wsX1_takesSign) := goodIn_app (goodIn_of _ (by decide +kernel)) ggX1_takes_X1_takesSign
set_option maxRecDepth 20000 in
theorem ggX1_takes_X1_takesNumber : GoodIn wsX1_takes wsX1_takesNumber := goodIn_r _ [20, 1, 21, 22, 23, 5, 24, 12, 25, 30, 31, 32, 33, 34, 35] (by decide +kernel) (by decide +kernel)
set_option maxRecDepth 20000 in
theorem gX1_takes_X1_takesNumber : GoodIn wsX1_takes (wsV RX1 57 RX1 yX1_takesNumber wsX1_takesNumber) := goodIn_app (goodIn_of _ (by decide +kernel)) ggX1_takes_X1_takesNumber
set_option maxRecDepth 20000 in
theorem ggX1_takes_X1_takesFigure : GoodIn wsX1_takes wsX1_takesFigure := goodIn_r _ [29, 21, 22, 23, 5, 24, 12, 25, 1, 30, 31, 32, 33, 34, 35] (by decide +kernel) (by decide +kernel)
set_option maxRecDepth 20000 in
theorem gX1_takes_X1_takesFigure : GoodIn wsX1_takes (wsV RX1 60 RX1 yX1_takesFigure wsX1_takesFigure) := goodIn_app (goodIn_of _ (by decide +kernel)) ggX1_takes_X1_takesFigure
theorem dX1_takes_0 : decode cX1_takes 0 = .ok (.aload_n 0, 1) := by decide +kernel
theorem dX1_takes_1 : decode cX1_takes 1 = .ok (.getfield 28, 3) := by decide +kernel
theorem dX1_takes_4 : decode cX1_takes 4 = .ok (.tableswitch 46 0 2 #[28, 34, 40], 28) := by decide +kernel
theorem dX1_takes_32 : decode cX1_takes 32 = .ok (.aload_n 0, 1) := by decide +kernel
theorem dX1_takes_33 : decode cX1_takes 33 = .ok (.iload_n 1, 1) := by decide +kernel
theorem dX1_takes_34 : decode cX1_takes 34 = .ok (.invokevirtual 51, 3) := by decide +kernel
theorem dX1_takes_37 : decode cX1_takes 37 = .ok (.ireturn, 1) := by decide +kernel
theorem dX1_takes_38 : decode cX1_takes 38 = .ok (.aload_n 0, 1) := by decide +kernel
theorem dX1_takes_39 : decode cX1_takes 39 = .ok (.iload_n 1, 1) := by decide +kernel
theorem dX1_takes_40 : decode cX1_takes 40 = .ok (.invokevirtual 54, 3) := by decide +kernel
theorem dX1_takes_43 : decode cX1_takes 43 = .ok (.ireturn, 1) := by decide +kernel
theorem dX1_takes_44 : decode cX1_takes 44 = .ok (.aload_n 0, 1) := by decide +kernel
theorem dX1_takes_45 : decode cX1_takes 45 = .ok (.iload_n 1, 1) := by decide +kernel
theorem dX1_takes_46 : decode cX1_takes 46 = .ok (.invokevirtual 57, 3) := by decide +kernel
theorem dX1_takes_49 : decode cX1_takes 49 = .ok (.ireturn, 1) := by decide +kernel
theorem dX1_takes_50 : decode cX1_takes 50 = .ok (.aload_n 0, 1) := by decide +kernel
theorem dX1_takes_51 : decode cX1_takes 51 = .ok (.iload_n 1, 1) := by decide +kernel
theorem dX1_takes_52 : decode cX1_takes 52 = .ok (.invokevirtual 60, 3) := by decide +kernel
theorem dX1_takes_55 : decode cX1_takes 55 = .ok (.ireturn, 1) := by decide +kernel
theorem dX1_takesOrder_0 : decode cX1_takesOrder 0 = .ok (.iload_n 1, 1) := by decide +kernel
theorem dX1_takesOrder_1 : decode cX1_takesOrder 1 = .ok (.bipush 49, 2) := by decide +kernel
theorem dX1_takesOrder_3 : decode cX1_takesOrder 3 = .ok (.if_icmp .lt 9, 3) := by decide +kernel
theorem dX1_takesOrder_6 : decode cX1_takesOrder 6 = .ok (.iload_n 1, 1) := by decide +kernel
theorem dX1_takesOrder_7 : decode cX1_takesOrder 7 = .ok (.bipush 51, 2) := by decide +kernel
theorem dX1_takesOrder_9 : decode cX1_takesOrder 9 = .ok (.if_icmp .le 5, 3) := by decide +kernel
theorem dX1_takesOrder_12 : decode cX1_takesOrder 12 = .ok (.iconst 0, 1) := by decide +kernel
theorem dX1_takesOrder_13 : decode cX1_takesOrder 13 = .ok (.ireturn, 1) := by decide +kernel
theorem dX1_takesOrder_14 : decode cX1_takesOrder 14 = .ok (.aload_n 0, 1) := by decide +kernel
theorem dX1_takesOrder_15 : decode cX1_takesOrder 15 = .ok (.iload_n 1, 1) := by decide +kernel
theorem dX1_takesOrder_16 : decode cX1_takesOrder 16 = .ok (.bipush 48, 2) := by decide +kernel
theorem dX1_takesOrder_18 : decode cX1_takesOrder 18 = .ok (.isub, 1) := by decide +kernel
theorem dX1_takesOrder_19 : decode cX1_takesOrder 19 = .ok (.putfield 22, 3) := by decide +kernel
theorem dX1_takesOrder_22 : decode cX1_takesOrder 22 = .ok (.aload_n 0, 1) := by decide +kernel
theorem dX1_takesOrder_23 : decode cX1_takesOrder 23 = .ok (.iconst 1, 1) := by decide +kernel
theorem dX1_takesOrder_24 : decode cX1_takesOrder 24 = .ok (.putfield 28, 3) := by decide +kernel
theorem dX1_takesOrder_27 : decode cX1_takesOrder 27 = .ok (.iconst 1, 1) := by decide +kernel
theorem dX1_takesOrder_28 : decode cX1_takesOrder 28 = .ok (.ireturn, 1) := by decide +kernel
set_option maxRecDepth 20000 in
theorem ggX1_takesSign_X1_needed : GoodIn wsX1_takesSign wsX1_needed := goodIn_r _ [8, 2, 9, 10, 11, 12, 13, 14] (by decide +kernel) (by decide +kernel)
set_option maxRecDepth 20000 in
theorem gX1_takesSign_X1_needed : GoodIn wsX1_takesSign (wsV RX1 39 RX1 yX1_needed wsX1_needed) := goodIn_app (goodIn_of _ (by decide +kernel)) ggX1_takesSign_X1_needed
theorem dX1_takesSign_0 : decode cX1_takesSign 0 = .ok (.aload_n 0, 1) := by decide +kernel
theorem dX1_takesSign_1 : decode cX1_takesSign 1 = .ok (.getfield 25, 3) := by decide +kernel
theorem dX1_takesSign_4 : decode cX1_takesSign 4 = .ok (.aload_n 0, 1) := by decide +kernel
theorem dX1_takesSign_5 : decode cX1_takesSign 5 = .ok (.invokevirtual 39, 3) := by decide +kernel
theorem dX1_takesSign_8 : decode cX1_takesSign 8 = .ok (.if_icmp .lt 5, 3) := by decide +kernel
theorem dX1_takesSign_11 : decode cX1_takesSign 11 = .ok (.iconst 0, 1) := by decide +kernel
theorem dX1_takesSign_12 : decode cX1_takesSign 12 = .ok (.ireturn, 1) := by decide +kernel
theorem dX1_takesSign_13 : decode cX1_takesSign 13 = .ok (.aload_n 0, 1) := by decide +kernel
theorem dX1_takesSign_14 : decode cX1_takesSign 14 = .ok (.getfield 25, 3) := by decide +kernel
theorem dX1_takesSign_17 : decode cX1_takesSign 17 = .ok (.ifCond .eq 40, 3) := by decide +kernel
theorem dX1_takesSign_20 : decode cX1_takesSign 20 = .ok (.aload_n 0, 1) := by decide +kernel
theorem dX1_takesSign_21 : decode cX1_takesSign 21 = .ok (.getfield 25, 3) := by decide +kernel
theorem dX1_takesSign_24 : decode cX1_takesSign 24 = .ok (.aload_n 0, 1) := by decide +kernel
theorem dX1_takesSign_25 : decode cX1_takesSign 25 = .ok (.getfield 22, 3) := by decide +kernel
theorem dX1_takesSign_28 : decode cX1_takesSign 28 = .ok (.aload_n 0, 1) := by decide +kernel
theorem dX1_takesSign_29 : decode cX1_takesSign 29 = .ok (.getfield 22, 3) := by decide +kernel
theorem dX1_takesSign_32 : decode cX1_takesSign 32 = .ok (.imul, 1) := by decide +kernel
theorem dX1_takesSign_33 : decode cX1_takesSign 33 = .ok (.if_icmp .eq 24, 3) := by decide +kernel
theorem dX1_takesSign_36 : decode cX1_takesSign 36 = .ok (.aload_n 0, 1) := by decide +kernel
theorem dX1_takesSign_37 : decode cX1_takesSign 37 = .ok (.getfield 25, 3) := by decide +kernel
theorem dX1_takesSign_40 : decode cX1_takesSign 40 = .ok (.aload_n 0, 1) := by decide +kernel
theorem dX1_takesSign_41 : decode cX1_takesSign 41 = .ok (.getfield 22, 3) := by decide +kernel
theorem dX1_takesSign_44 : decode cX1_takesSign 44 = .ok (.aload_n 0, 1) := by decide +kernel
theorem dX1_takesSign_45 : decode cX1_takesSign 45 = .ok (.getfield 22, 3) := by decide +kernel
theorem dX1_takesSign_48 : decode cX1_takesSign 48 = .ok (.imul, 1) := by decide +kernel
theorem dX1_takesSign_49 : decode cX1_takesSign 49 = .ok (.aload_n 0, 1) := by decide +kernel
theorem dX1_takesSign_50 : decode cX1_takesSign 50 = .ok (.getfield 22, 3) := by decide +kernel
theorem dX1_takesSign_53 : decode cX1_takesSign 53 = .ok (.iadd, 1) := by decide +kernel
theorem dX1_takesSign_54 : decode cX1_takesSign 54 = .ok (.if_icmp .ne 7, 3) := by decide +kernel
theorem dX1_takesSign_57 : decode cX1_takesSign 57 = .ok (.iconst 1, 1) := by decide +kernel
theorem dX1_takesSign_58 : decode cX1_takesSign 58 = .ok (.goto 4, 3) := by decide +kernel
theorem dX1_takesSign_61 : decode cX1_takesSign 61 = .ok (.iconst 0, 1) := by decide +kernel
theorem dX1_takesSign_62 : decode cX1_takesSign 62 = .ok (.istore_n 2, 1) := by decide +kernel
theorem dX1_takesSign_63 : decode cX1_takesSign 63 = .ok (.iload_n 1, 1) := by decide +kernel
theorem dX1_takesSign_64 : decode cX1_takesSign 64 = .ok (.iload_n 2, 1) := by decide +kernel
theorem dX1_takesSign_65 : decode cX1_takesSign 65 = .ok (.ifCond .eq 8, 3) := by decide +kernel
theorem dX1_takesSign_68 : decode cX1_takesSign 68 = .ok (.bipush 59, 2) := by decide +kernel
theorem dX1_takesSign_70 : decode cX1_takesSign 70 = .ok (.goto 5, 3) := by decide +kernel
theorem dX1_takesSign_73 : decode cX1_takesSign 73 = .ok (.bipush 44, 2) := by decide +kernel
theorem dX1_takesSign_75 : decode cX1_takesSign 75 = .ok (.if_icmp .eq 5, 3) := by decide +kernel
theorem dX1_takesSign_78 : decode cX1_takesSign 78 = .ok (.iconst 0, 1) := by decide +kernel
theorem dX1_takesSign_79 : decode cX1_takesSign 79 = .ok (.ireturn, 1) := by decide +kernel
theorem dX1_takesSign_80 : decode cX1_takesSign 80 = .ok (.aload_n 0, 1) := by decide +kernel
theorem dX1_takesSign_81 : decode cX1_takesSign 81 = .ok (.iconst 2, 1) := by decide +kernel
theorem dX1_takesSign_82 : decode cX1_takesSign 82 = .ok (.putfield 28, 3) := by decide +kernel
theorem dX1_takesSign_85 : decode cX1_takesSign 85 = .ok (.iconst 1, 1) := by decide +kernel
theorem dX1_takesSign_86 : decode cX1_takesSign 86 = .ok (.ireturn, 1) := by decide +kernel
set_option maxRecDepth 20000 in
theorem ggX1_takesNumber_X1_keeps : GoodIn wsX1_takesNumber wsX1_keeps := goodIn_r _ [6, 7, 8, 1, 9, 10, 11, 12, 13, 14] (by decide +kernel) (by decide +kernel)
set_option maxRecDepth 20000 in
theorem gX1_takesNumber_X1_keeps : GoodIn wsX1_takesNumber (wsV RX1 63 RX1 yX1_keeps wsX1_keeps) := goodIn_app (goodIn_of _ (by decide +kernel)) ggX1_takesNumber_X1_keeps
theorem dX1_takesNumber_0 : decode cX1_takesNumber 0 = .ok (.iload_n 1, 1) := by decide +kernel
theorem dX1_takesNumber_1 : decode cX1_takesNumber 1 = .ok (.bipush 45, 2) := by decide +kernel
theorem dX1_takesNumber_3 : decode cX1_takesNumber 3 = .ok (.if_icmp .ne 10, 3) := by decide +kernel
theorem dX1_takesNumber_6 : decode cX1_takesNumber 6 = .ok (.aload_n 0, 1) := by decide +kernel
theorem dX1_takesNumber_7 : decode cX1_takesNumber 7 = .ok (.iconst 3, 1) := by decide +kernel
theorem dX1_takesNumber_8 : decode cX1_takesNumber 8 = .ok (.putfield 28, 3) := by decide +kernel
theorem dX1_takesNumber_11 : decode cX1_takesNumber 11 = .ok (.iconst 1, 1) := by decide +kernel
theorem dX1_takesNumber_12 : decode cX1_takesNumber 12 = .ok (.ireturn, 1) := by decide +kernel
theorem dX1_takesNumber_13 : decode cX1_takesNumber 13 = .ok (.iload_n 1, 1) := by decide +kernel
theorem dX1_takesNumber_14 : decode cX1_takesNumber 14 = .ok (.bipush 48, 2) := by decide +kernel
theorem dX1_takesNumber_16 : decode cX1_takesNumber 16 = .ok (.if_icmp .lt 24, 3) := by decide +kernel
theorem dX1_takesNumber_19 : decode cX1_takesNumber 19 = .ok (.iload_n 1, 1) := by decide +kernel
theorem dX1_takesNumber_20 : decode cX1_takesNumber 20 = .ok (.bipush 50, 2) := by decide +kernel
theorem dX1_takesNumber_22 : decode cX1_takesNumber 22 = .ok (.if_icmp .gt 18, 3) := by decide +kernel
theorem dX1_takesNumber_25 : decode cX1_takesNumber 25 = .ok (.aload_n 0, 1) := by decide +kernel
theorem dX1_takesNumber_26 : decode cX1_takesNumber 26 = .ok (.iload_n 1, 1) := by decide +kernel
theorem dX1_takesNumber_27 : decode cX1_takesNumber 27 = .ok (.bipush 48, 2) := by decide +kernel
theorem dX1_takesNumber_29 : decode cX1_takesNumber 29 = .ok (.isub, 1) := by decide +kernel
theorem dX1_takesNumber_30 : decode cX1_takesNumber 30 = .ok (.invokevirtual 63, 3) := by decide +kernel
theorem dX1_takesNumber_33 : decode cX1_takesNumber 33 = .ok (.ifCond .eq 7, 3) := by decide +kernel
theorem dX1_takesNumber_36 : decode cX1_takesNumber 36 = .ok (.iconst 1, 1) := by decide +kernel
theorem dX1_takesNumber_37 : decode cX1_takesNumber 37 = .ok (.goto 4, 3) := by decide +kernel
theorem dX1_takesNumber_40 : decode cX1_takesNumber 40 = .ok (.iconst 0, 1) := by decide +kernel
theorem dX1_takesNumber_41 : decode cX1_takesNumber 41 = .ok (.ireturn, 1) := by decide +kernel
set_option maxRecDepth 20000 in
theorem ggX1_takesFigure_X1_keeps : GoodIn wsX1_takesFigure wsX1_keeps := goodIn_r _ [5, 6, 7, 8, 9, 10, 11, 12, 13, 14] (by decide +kernel) (by decide +kernel)
set_option maxRecDepth 20000 in
theorem gX1_takesFigure_X1_keeps : GoodIn wsX1_takesFigure (wsV RX1 63 RX1 yX1_keeps wsX1_keeps) := goodIn_app (goodIn_of _ (by decide +kernel)) ggX1_takesFigure_X1_keeps
theorem dX1_takesFigure_0 : decode cX1_takesFigure 0 = .ok (.iload_n 1, 1) := by decide +kernel
theorem dX1_takesFigure_1 : decode cX1_takesFigure 1 = .ok (.bipush 49, 2) := by decide +kernel
theorem dX1_takesFigure_3 : decode cX1_takesFigure 3 = .ok (.if_icmp .lt 24, 3) := by decide +kernel
theorem dX1_takesFigure_6 : decode cX1_takesFigure 6 = .ok (.iload_n 1, 1) := by decide +kernel
theorem dX1_takesFigure_7 : decode cX1_takesFigure 7 = .ok (.bipush 50, 2) := by decide +kernel
theorem dX1_takesFigure_9 : decode cX1_takesFigure 9 = .ok (.if_icmp .gt 18, 3) := by decide +kernel
theorem dX1_takesFigure_12 : decode cX1_takesFigure 12 = .ok (.aload_n 0, 1) := by decide +kernel
theorem dX1_takesFigure_13 : decode cX1_takesFigure 13 = .ok (.bipush 48, 2) := by decide +kernel
theorem dX1_takesFigure_15 : decode cX1_takesFigure 15 = .ok (.iload_n 1, 1) := by decide +kernel
theorem dX1_takesFigure_16 : decode cX1_takesFigure 16 = .ok (.isub, 1) := by decide +kernel
theorem dX1_takesFigure_17 : decode cX1_takesFigure 17 = .ok (.invokevirtual 63, 3) := by decide +kernel
theorem dX1_takesFigure_20 : decode cX1_takesFigure 20 = .ok (.ifCond .eq 7, 3) := by decide +kernel
theorem dX1_takesFigure_23 : decode cX1_takesFigure 23 = .ok (.iconst 1, 1) := by decide +kernel
theorem dX1_takesFigure_24 : decode cX1_takesFigure 24 = .ok (.goto 4, 3) := by decide +kernel
theorem dX1_takesFigure_27 : decode cX1_takesFigure 27 = .ok (.iconst 0, 1) := by decide +kernel
theorem dX1_takesFigure_28 : decode cX1_takesFigure 28 = .ok (.ireturn, 1) := by decide +kernel
theorem dX1_keeps_0 : decode cX1_keeps 0 = .ok (.aload_n 0, 1) := by decide +kernel
theorem dX1_keeps_1 : decode cX1_keeps 1 = .ok (.getfield 25, 3) := by decide +kernel
theorem dX1_keeps_4 : decode cX1_keeps 4 = .ok (.bipush 15, 2) := by decide +kernel
theorem dX1_keeps_6 : decode cX1_keeps 6 = .ok (.if_icmp .lt 5, 3) := by decide +kernel
theorem dX1_keeps_9 : decode cX1_keeps 9 = .ok (.iconst 0, 1) := by decide +kernel
theorem dX1_keeps_10 : decode cX1_keeps 10 = .ok (.ireturn, 1) := by decide +kernel
theorem dX1_keeps_11 : decode cX1_keeps 11 = .ok (.aload_n 0, 1) := by decide +kernel
theorem dX1_keeps_12 : decode cX1_keeps 12 = .ok (.getfield 19, 3) := by decide +kernel
theorem dX1_keeps_15 : decode cX1_keeps 15 = .ok (.aload_n 0, 1) := by decide +kernel
theorem dX1_keeps_16 : decode cX1_keeps 16 = .ok (.getfield 25, 3) := by decide +kernel
theorem dX1_keeps_19 : decode cX1_keeps 19 = .ok (.iload_n 1, 1) := by decide +kernel
theorem dX1_keeps_20 : decode cX1_keeps 20 = .ok (.iastore, 1) := by decide +kernel
theorem dX1_keeps_21 : decode cX1_keeps 21 = .ok (.aload_n 0, 1) := by decide +kernel
theorem dX1_keeps_22 : decode cX1_keeps 22 = .ok (.dup, 1) := by decide +kernel
theorem dX1_keeps_23 : decode cX1_keeps 23 = .ok (.getfield 25, 3) := by decide +kernel
theorem dX1_keeps_26 : decode cX1_keeps 26 = .ok (.iconst 1, 1) := by decide +kernel
theorem dX1_keeps_27 : decode cX1_keeps 27 = .ok (.iadd, 1) := by decide +kernel
theorem dX1_keeps_28 : decode cX1_keeps 28 = .ok (.putfield 25, 3) := by decide +kernel
theorem dX1_keeps_31 : decode cX1_keeps 31 = .ok (.aload_n 0, 1) := by decide +kernel
theorem dX1_keeps_32 : decode cX1_keeps 32 = .ok (.iconst 1, 1) := by decide +kernel
theorem dX1_keeps_33 : decode cX1_keeps 33 = .ok (.putfield 28, 3) := by decide +kernel
theorem dX1_keeps_36 : decode cX1_keeps 36 = .ok (.iconst 1, 1) := by decide +kernel
theorem dX1_keeps_37 : decode cX1_keeps 37 = .ok (.ireturn, 1) := by decide +kernel
theorem dX2_init_0 : decode cX2_init 0 = .ok (.aload_n 0, 1) := by decide +kernel
theorem dX2_init_1 : decode cX2_init 1 = .ok (.invokespecial 3, 3) := by decide +kernel
theorem dX2_init_4 : decode cX2_init 4 = .ok (.aload_n 0, 1) := by decide +kernel
theorem dX2_init_5 : decode cX2_init 5 = .ok (.bipush 6, 2) := by decide +kernel
theorem dX2_init_7 : decode cX2_init 7 = .ok (.newarray .int, 2) := by decide +kernel
theorem dX2_init_9 : decode cX2_init 9 = .ok (.putfield 9, 3) := by decide +kernel
theorem dX2_init_12 : decode cX2_init 12 = .ok (.aload_n 0, 1) := by decide +kernel
theorem dX2_init_13 : decode cX2_init 13 = .ok (.iconst (-1), 1) := by decide +kernel
theorem dX2_init_14 : decode cX2_init 14 = .ok (.putfield 15, 3) := by decide +kernel
theorem dX2_init_17 : decode cX2_init 17 = .ok (.aload_n 0, 1) := by decide +kernel
theorem dX2_init_18 : decode cX2_init 18 = .ok (.iconst 3, 1) := by decide +kernel
theorem dX2_init_19 : decode cX2_init 19 = .ok (.newarray .long, 2) := by decide +kernel
theorem dX2_init_21 : decode cX2_init 21 = .ok (.putfield 19, 3) := by decide +kernel
theorem dX2_init_24 : decode cX2_init 24 = .ok (.aload_n 0, 1) := by decide +kernel
theorem dX2_init_25 : decode cX2_init 25 = .ok (.iconst 3, 1) := by decide +kernel
theorem dX2_init_26 : decode cX2_init 26 = .ok (.iconst 3, 1) := by decide +kernel
theorem dX2_init_27 : decode cX2_init 27 = .ok (.multianewarray 23 2, 4) := by decide +kernel
theorem dX2_init_31 : decode cX2_init 31 = .ok (.putfield 25, 3) := by decide +kernel
theorem dX2_init_34 : decode cX2_init 34 = .ok (.aload_n 0, 1) := by decide +kernel
theorem dX2_init_35 : decode cX2_init 35 = .ok (.iconst 3, 1) := by decide +kernel
theorem dX2_init_36 : decode cX2_init 36 = .ok (.newarray .long, 2) := by decide +kernel
theorem dX2_init_38 : decode cX2_init 38 = .ok (.putfield 28, 3) := by decide +kernel
theorem dX2_init_41 : decode cX2_init 41 = .ok (.aload_n 0, 1) := by decide +kernel
theorem dX2_init_42 : decode cX2_init 42 = .ok (.iconst 1, 1) := by decide +kernel
theorem dX2_init_43 : decode cX2_init 43 = .ok (.putfield 31, 3) := by decide +kernel
theorem dX2_init_46 : decode cX2_init 46 = .ok (.aload_n 0, 1) := by decide +kernel
theorem dX2_init_47 : decode cX2_init 47 = .ok (.iconst 0, 1) := by decide +kernel
theorem dX2_init_48 : decode cX2_init 48 = .ok (.putfield 34, 3) := by decide +kernel
theorem dX2_init_51 : decode cX2_init 51 = .ok (.aload_n 0, 1) := by decide +kernel
theorem dX2_init_52 : decode cX2_init 52 = .ok (.iconst 0, 1) := by decide +kernel
theorem dX2_init_53 : decode cX2_init 53 = .ok (.putfield 37, 3) := by decide +kernel
theorem dX2_init_56 : decode cX2_init 56 = .ok (.return_, 1) := by decide +kernel
set_option maxRecDepth 20000 in
theorem ggX2_seek_X2_isOpen : GoodIn wsX2_seek wsX2_isOpen := goodIn_r _ [15, 16, 9, 8, 17, 18, 19, 20, 21, 22, 23, 24, 25, 26, 27, 28, 29, 30, 31, 32, 33, 34, 35, 36, 37, 38, 39, 40, 41, 42, 43, 44, 45, 46, 62, 63, 64, 65, 66, 67, 68, 69, 70, 71, 72, 73, 74, 75, 76, 77, 78, 79, 80] (by decide +kernel) (by decide +kernel)
set_option maxRecDepth 20000 in
theorem gX2_seek_X2_isOpen : GoodIn wsX2_seek (wsV RX2 51 RX2 yX2_isOpen wsX2_isOpen) := goodIn_app (goodIn_of _ (by decide +kernel)) ggX2_seek_X2_isOpen
set_option maxRecDepth 20000 in
theorem ggX2_seek_X2_isMet : GoodIn wsX2_seek wsX2_isMet := goodIn_r _ [50, 1, 9, 51, 52, 53, 14, 54, 55, 56, 57, 58, 59, 8, 17, 19, 60, 21, 61, 62, 63, 64, 65, 66, 67, 68, 69] (by decide +kernel) (by decide +kernel)
set_option maxRecDepth 20000 in
theorem gX2_seek_X2_isMet : GoodIn wsX2_seek (wsV RX2 59 RX2 yX2_isMet wsX2_isMet) := goodIn_app (goodIn_of _ (by decide +kernel)) ggX2_seek_X2_isMet
theorem dX2_seek_0 : decode cX2_seek 0 = .ok (.aload_n 0, 1) := by decide +kernel
theorem dX2_seek_1 : decode cX2_seek 1 = .ok (.iload 4, 2) := by decide +kernel
theorem dX2_seek_3 : decode cX2_seek 3 = .ok (.putfield 31, 3) := by decide +kernel
theorem dX2_seek_6 : decode cX2_seek 6 = .ok (.aload_n 0, 1) := by decide +kernel
theorem dX2_seek_7 : decode cX2_seek 7 = .ok (.iconst (-1), 1) := by decide +kernel
theorem dX2_seek_8 : decode cX2_seek 8 = .ok (.putfield 15, 3) := by decide +kernel
theorem dX2_seek_11 : decode cX2_seek 11 = .ok (.iconst 0, 1) := by decide +kernel
theorem dX2_seek_12 : decode cX2_seek 12 = .ok (.istore 5, 2) := by decide +kernel
theorem dX2_seek_14 : decode cX2_seek 14 = .ok (.iload 5, 2) := by decide +kernel
theorem dX2_seek_16 : decode cX2_seek 16 = .ok (.aload_n 2, 1) := by decide +kernel
theorem dX2_seek_17 : decode cX2_seek 17 = .ok (.getfield 40, 3) := by decide +kernel
theorem dX2_seek_20 : decode cX2_seek 20 = .ok (.iconst 3, 1) := by decide +kernel
theorem dX2_seek_21 : decode cX2_seek 21 = .ok (.iadd, 1) := by decide +kernel
theorem dX2_seek_22 : decode cX2_seek 22 = .ok (.if_icmp .gt 67, 3) := by decide +kernel
theorem dX2_seek_25 : decode cX2_seek 25 = .ok (.aload_n 0, 1) := by decide +kernel
theorem dX2_seek_26 : decode cX2_seek 26 = .ok (.getfield 15, 3) := by decide +kernel
theorem dX2_seek_29 : decode cX2_seek 29 = .ok (.ifCond .ge 60, 3) := by decide +kernel
theorem dX2_seek_32 : decode cX2_seek 32 = .ok (.aload_n 0, 1) := by decide +kernel
theorem dX2_seek_33 : decode cX2_seek 33 = .ok (.iload 5, 2) := by decide +kernel
theorem dX2_seek_35 : decode cX2_seek 35 = .ok (.aload_n 2, 1) := by decide +kernel
theorem dX2_seek_36 : decode cX2_seek 36 = .ok (.getfield 40, 3) := by decide +kernel
theorem dX2_seek_39 : decode cX2_seek 39 = .ok (.invokestatic 45, 3) := by decide +kernel
theorem dX2_seek_42 : decode cX2_seek 42 = .ok (.putfield 37, 3) := by decide +kernel
theorem dX2_seek_45 : decode cX2_seek 45 = .ok (.aload_n 0, 1) := by decide +kernel
theorem dX2_seek_46 : decode cX2_seek 46 = .ok (.iload 5, 2) := by decide +kernel
theorem dX2_seek_48 : decode cX2_seek 48 = .ok (.aload_n 0, 1) := by decide +kernel
theorem dX2_seek_49 : decode cX2_seek 49 = .ok (.getfield 37, 3) := by decide +kernel
theorem dX2_seek_52 : decode cX2_seek 52 = .ok (.isub, 1) := by decide +kernel
theorem dX2_seek_53 : decode cX2_seek 53 = .ok (.putfield 34, 3) := by decide +kernel
theorem dX2_seek_56 : decode cX2_seek 56 = .ok (.aload_n 0, 1) := by decide +kernel
theorem dX2_seek_57 : decode cX2_seek 57 = .ok (.aload_n 1, 1) := by decide +kernel
theorem dX2_seek_58 : decode cX2_seek 58 = .ok (.aload_n 2, 1) := by decide +kernel
theorem dX2_seek_59 : decode cX2_seek 59 = .ok (.aload_n 3, 1) := by decide +kernel
theorem dX2_seek_60 : decode cX2_seek 60 = .ok (.invokevirtual 51, 3) := by decide +kernel
theorem dX2_seek_63 : decode cX2_seek 63 = .ok (.ifCond .eq 20, 3) := by decide +kernel
theorem dX2_seek_66 : decode cX2_seek 66 = .ok (.aload_n 0, 1) := by decide +kernel
theorem dX2_seek_67 : decode cX2_seek 67 = .ok (.aload_n 2, 1) := by decide +kernel
theorem dX2_seek_68 : decode cX2_seek 68 = .ok (.getfield 55, 3) := by decide +kernel
theorem dX2_seek_71 : decode cX2_seek 71 = .ok (.invokevirtual 59, 3) := by decide +kernel
theorem dX2_seek_74 : decode cX2_seek 74 = .ok (.ifCond .eq 9, 3) := by decide +kernel
theorem dX2_seek_77 : decode cX2_seek 77 = .ok (.aload_n 0, 1) := by decide +kernel
theorem dX2_seek_78 : decode cX2_seek 78 = .ok (.iload 5, 2) := by decide +kernel
theorem dX2_seek_80 : decode cX2_seek 80 = .ok (.putfield 15, 3) := by decide +kernel
theorem dX2_seek_83 : decode cX2_seek 83 = .ok (.iinc 5 1, 3) := by decide +kernel
theorem dX2_seek_86 : decode cX2_seek 86 = .ok (.goto (-72), 3) := by decide +kernel
theorem dX2_seek_89 : decode cX2_seek 89 = .ok (.return_, 1) := by decide +kernel
set_option maxRecDepth 20000 in
theorem ggX2_isOpen_X4_copy : GoodIn wsX2_isOpen wsX4_copy := goodIn_r _ [9] (by decide +kernel) (by decide +kernel)
set_option maxRecDepth 20000 in
theorem gX2_isOpen_X4_copy_n63 : GoodIn wsX2_isOpen (wsX4_copy) := ggX2_isOpen_X4_copy
set_option maxRecDepth 20000 in
theorem ggX2_isOpen_X3_carry : GoodIn wsX2_isOpen wsX3_carry := goodIn_r _ [14, 15, 16, 17, 18, 13, 19, 20, 7, 8, 9, 50, 51, 52] (by decide +kernel) (by decide +kernel)
set_option maxRecDepth 20000 in
theorem gX2_isOpen_X3_carry : GoodIn wsX2_isOpen (wsV RX2 67 RX3 yX3_carry wsX3_carry) := goodIn_app (goodIn_of _ (by decide +kernel)) ggX2_isOpen_X3_carry
set_option maxRecDepth 20000 in
theorem ggX2_isOpen_X0_spans : GoodIn wsX2_isOpen wsX0_spans := goodIn_r _ [25, 26, 27, 28, 24, 29, 30, 31, 8, 32, 42, 43, 44, 45, 46, 47, 48, 49] (by decide +kernel) (by decide +kernel)
set_option maxRecDepth 20000 in
theorem gX2_isOpen_X0_spans : GoodIn wsX2_isOpen (wsV RX2 73 RX0 yX0_spans wsX0_spans) := goodIn_app (goodIn_of _ (by decide +kernel)) ggX2_isOpen_X0_spans
set_option maxRecDepth 20000 in
theorem ggX2_isOpen_X0_share : GoodIn wsX2_isOpen wsX0_share := goodIn_r _ [29, 30, 31, 8, 32, 42, 43, 44, 45, 46, 47, 48, 49] (by decide +kernel) (by decide +kernel)
