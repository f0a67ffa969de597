set_option maxRecDepth 20000 in
theorem gX2_isOpen_X0_share : GoodIn wsX2_isOpen (wsV RX2 77 RX0 yX0_share wsX0_share) := goodIn_app (goodIn_of _ (by decide +kernel)) ggX2_isOpen_X0_share
theorem dX2_isOpen_0 : decode cX2_isOpen 0 = .ok (.aload_n 3, 1) := by decide +kernel
theorem dX2_isOpen_1 : decode cX2_isOpen 1 = .ok (.aload_n 0, 1) := by decide +kernel
theorem dX2_isOpen_2 : decode cX2_isOpen 2 = .ok (.getfield 28, 3) := by decide +kernel
theorem dX2_isOpen_5 : decode cX2_isOpen 5 = .ok (.invokestatic 63, 3) := by decide +kernel
theorem dX2_isOpen_8 : decode cX2_isOpen 8 = .ok (.aload_n 1, 1) := by decide +kernel
theorem dX2_isOpen_9 : decode cX2_isOpen 9 = .ok (.iconst 0, 1) := by decide +kernel
theorem dX2_isOpen_10 : decode cX2_isOpen 10 = .ok (.aload_n 0, 1) := by decide +kernel
theorem dX2_isOpen_11 : decode cX2_isOpen 11 = .ok (.getfield 28, 3) := by decide +kernel
theorem dX2_isOpen_14 : decode cX2_isOpen 14 = .ok (.aload_n 0, 1) := by decide +kernel
theorem dX2_isOpen_15 : decode cX2_isOpen 15 = .ok (.getfield 34, 3) := by decide +kernel
theorem dX2_isOpen_18 : decode cX2_isOpen 18 = .ok (.aload_n 0, 1) := by decide +kernel
theorem dX2_isOpen_19 : decode cX2_isOpen 19 = .ok (.getfield 37, 3) := by decide +kernel
theorem dX2_isOpen_22 : decode cX2_isOpen 22 = .ok (.iadd, 1) := by decide +kernel
theorem dX2_isOpen_23 : decode cX2_isOpen 23 = .ok (.invokevirtual 67, 3) := by decide +kernel
theorem dX2_isOpen_26 : decode cX2_isOpen 26 = .ok (.aload_n 2, 1) := by decide +kernel
theorem dX2_isOpen_27 : decode cX2_isOpen 27 = .ok (.aload_n 0, 1) := by decide +kernel
theorem dX2_isOpen_28 : decode cX2_isOpen 28 = .ok (.getfield 28, 3) := by decide +kernel
theorem dX2_isOpen_31 : decode cX2_isOpen 31 = .ok (.aload_n 0, 1) := by decide +kernel
theorem dX2_isOpen_32 : decode cX2_isOpen 32 = .ok (.getfield 37, 3) := by decide +kernel
theorem dX2_isOpen_35 : decode cX2_isOpen 35 = .ok (.invokevirtual 73, 3) := by decide +kernel
theorem dX2_isOpen_38 : decode cX2_isOpen 38 = .ok (.ifCond .ne 5, 3) := by decide +kernel
theorem dX2_isOpen_41 : decode cX2_isOpen 41 = .ok (.iconst 0, 1) := by decide +kernel
theorem dX2_isOpen_42 : decode cX2_isOpen 42 = .ok (.ireturn, 1) := by decide +kernel
theorem dX2_isOpen_43 : decode cX2_isOpen 43 = .ok (.iconst 0, 1) := by decide +kernel
theorem dX2_isOpen_44 : decode cX2_isOpen 44 = .ok (.istore 4, 2) := by decide +kernel
theorem dX2_isOpen_46 : decode cX2_isOpen 46 = .ok (.iload 4, 2) := by decide +kernel
theorem dX2_isOpen_48 : decode cX2_isOpen 48 = .ok (.iconst 3, 1) := by decide +kernel
theorem dX2_isOpen_49 : decode cX2_isOpen 49 = .ok (.if_icmp .ge 27, 3) := by decide +kernel
theorem dX2_isOpen_52 : decode cX2_isOpen 52 = .ok (.aload_n 0, 1) := by decide +kernel
theorem dX2_isOpen_53 : decode cX2_isOpen 53 = .ok (.getfield 19, 3) := by decide +kernel
theorem dX2_isOpen_56 : decode cX2_isOpen 56 = .ok (.iload 4, 2) := by decide +kernel
theorem dX2_isOpen_58 : decode cX2_isOpen 58 = .ok (.aload_n 2, 1) := by decide +kernel
theorem dX2_isOpen_59 : decode cX2_isOpen 59 = .ok (.iload 4, 2) := by decide +kernel
theorem dX2_isOpen_61 : decode cX2_isOpen 61 = .ok (.aload_n 0, 1) := by decide +kernel
theorem dX2_isOpen_62 : decode cX2_isOpen 62 = .ok (.getfield 28, 3) := by decide +kernel
theorem dX2_isOpen_65 : decode cX2_isOpen 65 = .ok (.invokevirtual 77, 3) := by decide +kernel
theorem dX2_isOpen_68 : decode cX2_isOpen 68 = .ok (.lneg, 1) := by decide +kernel
theorem dX2_isOpen_69 : decode cX2_isOpen 69 = .ok (.lastore, 1) := by decide +kernel
theorem dX2_isOpen_70 : decode cX2_isOpen 70 = .ok (.iinc 4 1, 3) := by decide +kernel
theorem dX2_isOpen_73 : decode cX2_isOpen 73 = .ok (.goto (-27), 3) := by decide +kernel
theorem dX2_isOpen_76 : decode cX2_isOpen 76 = .ok (.iconst 0, 1) := by decide +kernel
theorem dX2_isOpen_77 : decode cX2_isOpen 77 = .ok (.istore 4, 2) := by decide +kernel
theorem dX2_isOpen_79 : decode cX2_isOpen 79 = .ok (.iload 4, 2) := by decide +kernel
theorem dX2_isOpen_81 : decode cX2_isOpen 81 = .ok (.aload_n 0, 1) := by decide +kernel
theorem dX2_isOpen_82 : decode cX2_isOpen 82 = .ok (.getfield 34, 3) := by decide +kernel
theorem dX2_isOpen_85 : decode cX2_isOpen 85 = .ok (.if_icmp .ge 80, 3) := by decide +kernel
theorem dX2_isOpen_88 : decode cX2_isOpen 88 = .ok (.aload_n 2, 1) := by decide +kernel
theorem dX2_isOpen_89 : decode cX2_isOpen 89 = .ok (.getfield 81, 3) := by decide +kernel
theorem dX2_isOpen_92 : decode cX2_isOpen 92 = .ok (.iconst 0, 1) := by decide +kernel
theorem dX2_isOpen_93 : decode cX2_isOpen 93 = .ok (.aaload, 1) := by decide +kernel
theorem dX2_isOpen_94 : decode cX2_isOpen 94 = .ok (.aload_n 0, 1) := by decide +kernel
theorem dX2_isOpen_95 : decode cX2_isOpen 95 = .ok (.getfield 28, 3) := by decide +kernel
theorem dX2_isOpen_98 : decode cX2_isOpen 98 = .ok (.invokestatic 63, 3) := by decide +kernel
theorem dX2_isOpen_101 : decode cX2_isOpen 101 = .ok (.aload_n 1, 1) := by decide +kernel
theorem dX2_isOpen_102 : decode cX2_isOpen 102 = .ok (.iconst 0, 1) := by decide +kernel
theorem dX2_isOpen_103 : decode cX2_isOpen 103 = .ok (.aload_n 0, 1) := by decide +kernel
theorem dX2_isOpen_104 : decode cX2_isOpen 104 = .ok (.getfield 28, 3) := by decide +kernel
theorem dX2_isOpen_107 : decode cX2_isOpen 107 = .ok (.aload_n 0, 1) := by decide +kernel
theorem dX2_isOpen_108 : decode cX2_isOpen 108 = .ok (.getfield 34, 3) := by decide +kernel
theorem dX2_isOpen_111 : decode cX2_isOpen 111 = .ok (.aload_n 0, 1) := by decide +kernel
theorem dX2_isOpen_112 : decode cX2_isOpen 112 = .ok (.getfield 37, 3) := by decide +kernel
theorem dX2_isOpen_115 : decode cX2_isOpen 115 = .ok (.iadd, 1) := by decide +kernel
theorem dX2_isOpen_116 : decode cX2_isOpen 116 = .ok (.iconst 1, 1) := by decide +kernel
theorem dX2_isOpen_117 : decode cX2_isOpen 117 = .ok (.isub, 1) := by decide +kernel
theorem dX2_isOpen_118 : decode cX2_isOpen 118 = .ok (.iload 4, 2) := by decide +kernel
theorem dX2_isOpen_120 : decode cX2_isOpen 120 = .ok (.isub, 1) := by decide +kernel
theorem dX2_isOpen_121 : decode cX2_isOpen 121 = .ok (.invokevirtual 67, 3) := by decide +kernel
theorem dX2_isOpen_124 : decode cX2_isOpen 124 = .ok (.iconst 0, 1) := by decide +kernel
theorem dX2_isOpen_125 : decode cX2_isOpen 125 = .ok (.istore 5, 2) := by decide +kernel
theorem dX2_isOpen_127 : decode cX2_isOpen 127 = .ok (.iload 5, 2) := by decide +kernel
theorem dX2_isOpen_129 : decode cX2_isOpen 129 = .ok (.iconst 3, 1) := by decide +kernel
theorem dX2_isOpen_130 : decode cX2_isOpen 130 = .ok (.if_icmp .ge 29, 3) := by decide +kernel
theorem dX2_isOpen_133 : decode cX2_isOpen 133 = .ok (.aload_n 0, 1) := by decide +kernel
theorem dX2_isOpen_134 : decode cX2_isOpen 134 = .ok (.getfield 25, 3) := by decide +kernel
theorem dX2_isOpen_137 : decode cX2_isOpen 137 = .ok (.iload 4, 2) := by decide +kernel
theorem dX2_isOpen_139 : decode cX2_isOpen 139 = .ok (.aaload, 1) := by decide +kernel
theorem dX2_isOpen_140 : decode cX2_isOpen 140 = .ok (.iload 5, 2) := by decide +kernel
theorem dX2_isOpen_142 : decode cX2_isOpen 142 = .ok (.aload_n 2, 1) := by decide +kernel
theorem dX2_isOpen_143 : decode cX2_isOpen 143 = .ok (.iload 5, 2) := by decide +kernel
theorem dX2_isOpen_145 : decode cX2_isOpen 145 = .ok (.aload_n 0, 1) := by decide +kernel
theorem dX2_isOpen_146 : decode cX2_isOpen 146 = .ok (.getfield 28, 3) := by decide +kernel
theorem dX2_isOpen_149 : decode cX2_isOpen 149 = .ok (.invokevirtual 77, 3) := by decide +kernel
theorem dX2_isOpen_152 : decode cX2_isOpen 152 = .ok (.lastore, 1) := by decide +kernel
theorem dX2_isOpen_153 : decode cX2_isOpen 153 = .ok (.iinc 5 1, 3) := by decide +kernel
theorem dX2_isOpen_156 : decode cX2_isOpen 156 = .ok (.goto (-29), 3) := by decide +kernel
theorem dX2_isOpen_159 : decode cX2_isOpen 159 = .ok (.iinc 4 1, 3) := by decide +kernel
theorem dX2_isOpen_162 : decode cX2_isOpen 162 = .ok (.goto (-83), 3) := by decide +kernel
theorem dX2_isOpen_165 : decode cX2_isOpen 165 = .ok (.iconst 1, 1) := by decide +kernel
theorem dX2_isOpen_166 : decode cX2_isOpen 166 = .ok (.ireturn, 1) := by decide +kernel
set_option maxRecDepth 20000 in
theorem ggX2_isMet_X2_setTried : GoodIn wsX2_isMet wsX2_setTried := goodIn_r _ [7, 2, 8, 1, 19, 20, 21, 22, 23, 24, 25, 26] (by decide +kernel) (by decide +kernel)
set_option maxRecDepth 20000 in
theorem gX2_isMet_X2_setTried : GoodIn wsX2_isMet (wsV RX2 84 RX2 yX2_setTried wsX2_setTried) := goodIn_app (goodIn_of _ (by decide +kernel)) ggX2_isMet_X2_setTried
set_option maxRecDepth 20000 in
theorem ggX2_isMet_X2_restFits : GoodIn wsX2_isMet wsX2_restFits := goodIn_r _ [12, 13, 14, 2, 8, 15, 1, 16, 17, 18, 19, 20, 21, 22, 23, 24, 25, 26] (by decide +kernel) (by decide +kernel)
set_option maxRecDepth 20000 in
theorem gX2_isMet_X2_restFits : GoodIn wsX2_isMet (wsV RX2 88 RX2 yX2_restFits wsX2_restFits) := goodIn_app (goodIn_of _ (by decide +kernel)) ggX2_isMet_X2_restFits
theorem dX2_isMet_0 : decode cX2_isMet 0 = .ok (.iconst 2, 1) := by decide +kernel
theorem dX2_isMet_1 : decode cX2_isMet 1 = .ok (.aload_n 0, 1) := by decide +kernel
theorem dX2_isMet_2 : decode cX2_isMet 2 = .ok (.getfield 31, 3) := by decide +kernel
theorem dX2_isMet_5 : decode cX2_isMet 5 = .ok (.imul, 1) := by decide +kernel
theorem dX2_isMet_6 : decode cX2_isMet 6 = .ok (.iconst 1, 1) := by decide +kernel
theorem dX2_isMet_7 : decode cX2_isMet 7 = .ok (.iadd, 1) := by decide +kernel
theorem dX2_isMet_8 : decode cX2_isMet 8 = .ok (.istore_n 3, 1) := by decide +kernel
theorem dX2_isMet_9 : decode cX2_isMet 9 = .ok (.iconst 1, 1) := by decide +kernel
theorem dX2_isMet_10 : decode cX2_isMet 10 = .ok (.istore 4, 2) := by decide +kernel
theorem dX2_isMet_12 : decode cX2_isMet 12 = .ok (.iconst 0, 1) := by decide +kernel
theorem dX2_isMet_13 : decode cX2_isMet 13 = .ok (.istore 5, 2) := by decide +kernel
theorem dX2_isMet_15 : decode cX2_isMet 15 = .ok (.iload 5, 2) := by decide +kernel
theorem dX2_isMet_17 : decode cX2_isMet 17 = .ok (.aload_n 0, 1) := by decide +kernel
theorem dX2_isMet_18 : decode cX2_isMet 18 = .ok (.getfield 34, 3) := by decide +kernel
theorem dX2_isMet_21 : decode cX2_isMet 21 = .ok (.if_icmp .ge 15, 3) := by decide +kernel
theorem dX2_isMet_24 : decode cX2_isMet 24 = .ok (.iload 4, 2) := by decide +kernel
theorem dX2_isMet_26 : decode cX2_isMet 26 = .ok (.iload_n 3, 1) := by decide +kernel
theorem dX2_isMet_27 : decode cX2_isMet 27 = .ok (.imul, 1) := by decide +kernel
theorem dX2_isMet_28 : decode cX2_isMet 28 = .ok (.istore 4, 2) := by decide +kernel
theorem dX2_isMet_30 : decode cX2_isMet 30 = .ok (.iinc 5 1, 3) := by decide +kernel
theorem dX2_isMet_33 : decode cX2_isMet 33 = .ok (.goto (-18), 3) := by decide +kernel
theorem dX2_isMet_36 : decode cX2_isMet 36 = .ok (.iconst 0, 1) := by decide +kernel
theorem dX2_isMet_37 : decode cX2_isMet 37 = .ok (.istore 5, 2) := by decide +kernel
theorem dX2_isMet_39 : decode cX2_isMet 39 = .ok (.iload 5, 2) := by decide +kernel
theorem dX2_isMet_41 : decode cX2_isMet 41 = .ok (.iload 4, 2) := by decide +kernel
theorem dX2_isMet_43 : decode cX2_isMet 43 = .ok (.if_icmp .ge 26, 3) := by decide +kernel
theorem dX2_isMet_46 : decode cX2_isMet 46 = .ok (.aload_n 0, 1) := by decide +kernel
theorem dX2_isMet_47 : decode cX2_isMet 47 = .ok (.iload 5, 2) := by decide +kernel
theorem dX2_isMet_49 : decode cX2_isMet 49 = .ok (.iload_n 3, 1) := by decide +kernel
theorem dX2_isMet_50 : decode cX2_isMet 50 = .ok (.invokevirtual 84, 3) := by decide +kernel
theorem dX2_isMet_53 : decode cX2_isMet 53 = .ok (.aload_n 0, 1) := by decide +kernel
theorem dX2_isMet_54 : decode cX2_isMet 54 = .ok (.lload_n 1, 1) := by decide +kernel
theorem dX2_isMet_55 : decode cX2_isMet 55 = .ok (.invokevirtual 88, 3) := by decide +kernel
theorem dX2_isMet_58 : decode cX2_isMet 58 = .ok (.ifCond .eq 5, 3) := by decide +kernel
theorem dX2_isMet_61 : decode cX2_isMet 61 = .ok (.iconst 1, 1) := by decide +kernel
theorem dX2_isMet_62 : decode cX2_isMet 62 = .ok (.ireturn, 1) := by decide +kernel
theorem dX2_isMet_63 : decode cX2_isMet 63 = .ok (.iinc 5 1, 3) := by decide +kernel
theorem dX2_isMet_66 : decode cX2_isMet 66 = .ok (.goto (-27), 3) := by decide +kernel
theorem dX2_isMet_69 : decode cX2_isMet 69 = .ok (.iconst 0, 1) := by decide +kernel
theorem dX2_isMet_70 : decode cX2_isMet 70 = .ok (.ireturn, 1) := by decide +kernel
theorem dX2_setTried_0 : decode cX2_setTried 0 = .ok (.iload_n 1, 1) := by decide +kernel
theorem dX2_setTried_1 : decode cX2_setTried 1 = .ok (.istore_n 3, 1) := by decide +kernel
theorem dX2_setTried_2 : decode cX2_setTried 2 = .ok (.aload_n 0, 1) := by decide +kernel
theorem dX2_setTried_3 : decode cX2_setTried 3 = .ok (.getfield 34, 3) := by decide +kernel
theorem dX2_setTried_6 : decode cX2_setTried 6 = .ok (.iconst 1, 1) := by decide +kernel
theorem dX2_setTried_7 : decode cX2_setTried 7 = .ok (.isub, 1) := by decide +kernel
theorem dX2_setTried_8 : decode cX2_setTried 8 = .ok (.istore 4, 2) := by decide +kernel
theorem dX2_setTried_10 : decode cX2_setTried 10 = .ok (.iload 4, 2) := by decide +kernel
theorem dX2_setTried_12 : decode cX2_setTried 12 = .ok (.ifCond .lt 32, 3) := by decide +kernel
theorem dX2_setTried_15 : decode cX2_setTried 15 = .ok (.iload_n 2, 1) := by decide +kernel
theorem dX2_setTried_16 : decode cX2_setTried 16 = .ok (.ifCond .le 28, 3) := by decide +kernel
theorem dX2_setTried_19 : decode cX2_setTried 19 = .ok (.aload_n 0, 1) := by decide +kernel
theorem dX2_setTried_20 : decode cX2_setTried 20 = .ok (.getfield 9, 3) := by decide +kernel
theorem dX2_setTried_23 : decode cX2_setTried 23 = .ok (.iload 4, 2) := by decide +kernel
theorem dX2_setTried_25 : decode cX2_setTried 25 = .ok (.iload_n 3, 1) := by decide +kernel
theorem dX2_setTried_26 : decode cX2_setTried 26 = .ok (.iload_n 2, 1) := by decide +kernel
theorem dX2_setTried_27 : decode cX2_setTried 27 = .ok (.irem, 1) := by decide +kernel
theorem dX2_setTried_28 : decode cX2_setTried 28 = .ok (.aload_n 0, 1) := by decide +kernel
theorem dX2_setTried_29 : decode cX2_setTried 29 = .ok (.getfield 31, 3) := by decide +kernel
theorem dX2_setTried_32 : decode cX2_setTried 32 = .ok (.isub, 1) := by decide +kernel
theorem dX2_setTried_33 : decode cX2_setTried 33 = .ok (.iastore, 1) := by decide +kernel
theorem dX2_setTried_34 : decode cX2_setTried 34 = .ok (.iload_n 3, 1) := by decide +kernel
theorem dX2_setTried_35 : decode cX2_setTried 35 = .ok (.iload_n 2, 1) := by decide +kernel
theorem dX2_setTried_36 : decode cX2_setTried 36 = .ok (.idiv, 1) := by decide +kernel
theorem dX2_setTried_37 : decode cX2_setTried 37 = .ok (.istore_n 3, 1) := by decide +kernel
theorem dX2_setTried_38 : decode cX2_setTried 38 = .ok (.iinc 4 (-1), 3) := by decide +kernel
theorem dX2_setTried_41 : decode cX2_setTried 41 = .ok (.goto (-31), 3) := by decide +kernel
theorem dX2_setTried_44 : decode cX2_setTried 44 = .ok (.return_, 1) := by decide +kernel
set_option maxRecDepth 20000 in
theorem ggX2_restFits_X4_quotient : GoodIn wsX2_restFits wsX4_quotient := goodIn_r _ [9] (by decide +kernel) (by decide +kernel)
set_option maxRecDepth 20000 in
theorem gX2_restFits_X4_quotient_n91 : GoodIn wsX2_restFits (wsX4_quotient) := ggX2_restFits_X4_quotient
theorem dX2_restFits_0 : decode cX2_restFits 0 = .ok (.iconst 0, 1) := by decide +kernel
theorem dX2_restFits_1 : decode cX2_restFits 1 = .ok (.istore_n 3, 1) := by decide +kernel
theorem dX2_restFits_2 : decode cX2_restFits 2 = .ok (.iload_n 3, 1) := by decide +kernel
theorem dX2_restFits_3 : decode cX2_restFits 3 = .ok (.aload_n 0, 1) := by decide +kernel
theorem dX2_restFits_4 : decode cX2_restFits 4 = .ok (.getfield 37, 3) := by decide +kernel
theorem dX2_restFits_7 : decode cX2_restFits 7 = .ok (.if_icmp .ge 122, 3) := by decide +kernel
theorem dX2_restFits_10 : decode cX2_restFits 10 = .ok (.aload_n 0, 1) := by decide +kernel
theorem dX2_restFits_11 : decode cX2_restFits 11 = .ok (.getfield 19, 3) := by decide +kernel
theorem dX2_restFits_14 : decode cX2_restFits 14 = .ok (.iload_n 3, 1) := by decide +kernel
theorem dX2_restFits_15 : decode cX2_restFits 15 = .ok (.laload, 1) := by decide +kernel
theorem dX2_restFits_16 : decode cX2_restFits 16 = .ok (.lstore 4, 2) := by decide +kernel
theorem dX2_restFits_18 : decode cX2_restFits 18 = .ok (.iconst 0, 1) := by decide +kernel
theorem dX2_restFits_19 : decode cX2_restFits 19 = .ok (.istore 6, 2) := by decide +kernel
theorem dX2_restFits_21 : decode cX2_restFits 21 = .ok (.iload 6, 2) := by decide +kernel
theorem dX2_restFits_23 : decode cX2_restFits 23 = .ok (.aload_n 0, 1) := by decide +kernel
theorem dX2_restFits_24 : decode cX2_restFits 24 = .ok (.getfield 34, 3) := by decide +kernel
theorem dX2_restFits_27 : decode cX2_restFits 27 = .ok (.if_icmp .ge 32, 3) := by decide +kernel
theorem dX2_restFits_30 : decode cX2_restFits 30 = .ok (.lload 4, 2) := by decide +kernel
theorem dX2_restFits_32 : decode cX2_restFits 32 = .ok (.aload_n 0, 1) := by decide +kernel
theorem dX2_restFits_33 : decode cX2_restFits 33 = .ok (.getfield 9, 3) := by decide +kernel
theorem dX2_restFits_36 : decode cX2_restFits 36 = .ok (.iload 6, 2) := by decide +kernel
theorem dX2_restFits_38 : decode cX2_restFits 38 = .ok (.iaload, 1) := by decide +kernel
theorem dX2_restFits_39 : decode cX2_restFits 39 = .ok (.i2l, 1) := by decide +kernel
theorem dX2_restFits_40 : decode cX2_restFits 40 = .ok (.aload_n 0, 1) := by decide +kernel
theorem dX2_restFits_41 : decode cX2_restFits 41 = .ok (.getfield 25, 3) := by decide +kernel
theorem dX2_restFits_44 : decode cX2_restFits 44 = .ok (.iload 6, 2) := by decide +kernel
theorem dX2_restFits_46 : decode cX2_restFits 46 = .ok (.aaload, 1) := by decide +kernel
theorem dX2_restFits_47 : decode cX2_restFits 47 = .ok (.iload_n 3, 1) := by decide +kernel
theorem dX2_restFits_48 : decode cX2_restFits 48 = .ok (.laload, 1) := by decide +kernel
theorem dX2_restFits_49 : decode cX2_restFits 49 = .ok (.lmul, 1) := by decide +kernel
theorem dX2_restFits_50 : decode cX2_restFits 50 = .ok (.lsub, 1) := by decide +kernel
theorem dX2_restFits_51 : decode cX2_restFits 51 = .ok (.lstore 4, 2) := by decide +kernel
theorem dX2_restFits_53 : decode cX2_restFits 53 = .ok (.iinc 6 1, 3) := by decide +kernel
theorem dX2_restFits_56 : decode cX2_restFits 56 = .ok (.goto (-35), 3) := by decide +kernel
theorem dX2_restFits_59 : decode cX2_restFits 59 = .ok (.lload 4, 2) := by decide +kernel
theorem dX2_restFits_61 : decode cX2_restFits 61 = .ok (.lload_n 1, 1) := by decide +kernel
theorem dX2_restFits_62 : decode cX2_restFits 62 = .ok (.invokestatic 91, 3) := by decide +kernel
theorem dX2_restFits_65 : decode cX2_restFits 65 = .ok (.lstore 6, 2) := by decide +kernel
theorem dX2_restFits_67 : decode cX2_restFits 67 = .ok (.lload 6, 2) := by decide +kernel
theorem dX2_restFits_69 : decode cX2_restFits 69 = .ok (.lload_n 1, 1) := by decide +kernel
theorem dX2_restFits_70 : decode cX2_restFits 70 = .ok (.lmul, 1) := by decide +kernel
theorem dX2_restFits_71 : decode cX2_restFits 71 = .ok (.lload 4, 2) := by decide +kernel
theorem dX2_restFits_73 : decode cX2_restFits 73 = .ok (.lcmp, 1) := by decide +kernel
theorem dX2_restFits_74 : decode cX2_restFits 74 = .ok (.ifCond .ne 26, 3) := by decide +kernel
theorem dX2_restFits_77 : decode cX2_restFits 77 = .ok (.lload 6, 2) := by decide +kernel
theorem dX2_restFits_79 : decode cX2_restFits 79 = .ok (.aload_n 0, 1) := by decide +kernel
theorem dX2_restFits_80 : decode cX2_restFits 80 = .ok (.getfield 31, 3) := by decide +kernel
theorem dX2_restFits_83 : decode cX2_restFits 83 = .ok (.ineg, 1) := by decide +kernel
theorem dX2_restFits_84 : decode cX2_restFits 84 = .ok (.i2l, 1) := by decide +kernel
theorem dX2_restFits_85 : decode cX2_restFits 85 = .ok (.lcmp, 1) := by decide +kernel
theorem dX2_restFits_86 : decode cX2_restFits 86 = .ok (.ifCond .lt 14, 3) := by decide +kernel
theorem dX2_restFits_89 : decode cX2_restFits 89 = .ok (.lload 6, 2) := by decide +kernel
theorem dX2_restFits_91 : decode cX2_restFits 91 = .ok (.aload_n 0, 1) := by decide +kernel
theorem dX2_restFits_92 : decode cX2_restFits 92 = .ok (.getfield 31, 3) := by decide +kernel
theorem dX2_restFits_95 : decode cX2_restFits 95 = .ok (.i2l, 1) := by decide +kernel
theorem dX2_restFits_96 : decode cX2_restFits 96 = .ok (.lcmp, 1) := by decide +kernel
theorem dX2_restFits_97 : decode cX2_restFits 97 = .ok (.ifCond .le 5, 3) := by decide +kernel
theorem dX2_restFits_100 : decode cX2_restFits 100 = .ok (.iconst 0, 1) := by decide +kernel
theorem dX2_restFits_101 : decode cX2_restFits 101 = .ok (.ireturn, 1) := by decide +kernel
theorem dX2_restFits_102 : decode cX2_restFits 102 = .ok (.aload_n 0, 1) := by decide +kernel
theorem dX2_restFits_103 : decode cX2_restFits 103 = .ok (.getfield 9, 3) := by decide +kernel
theorem dX2_restFits_106 : decode cX2_restFits 106 = .ok (.aload_n 0, 1) := by decide +kernel
theorem dX2_restFits_107 : decode cX2_restFits 107 = .ok (.getfield 34, 3) := by decide +kernel
theorem dX2_restFits_110 : decode cX2_restFits 110 = .ok (.aload_n 0, 1) := by decide +kernel
theorem dX2_restFits_111 : decode cX2_restFits 111 = .ok (.getfield 37, 3) := by decide +kernel
theorem dX2_restFits_114 : decode cX2_restFits 114 = .ok (.iadd, 1) := by decide +kernel
theorem dX2_restFits_115 : decode cX2_restFits 115 = .ok (.iconst 1, 1) := by decide +kernel
theorem dX2_restFits_116 : decode cX2_restFits 116 = .ok (.isub, 1) := by decide +kernel
theorem dX2_restFits_117 : decode cX2_restFits 117 = .ok (.iload_n 3, 1) := by decide +kernel
theorem dX2_restFits_118 : decode cX2_restFits 118 = .ok (.isub, 1) := by decide +kernel
theorem dX2_restFits_119 : decode cX2_restFits 119 = .ok (.lload 6, 2) := by decide +kernel
theorem dX2_restFits_121 : decode cX2_restFits 121 = .ok (.l2i, 1) := by decide +kernel
theorem dX2_restFits_122 : decode cX2_restFits 122 = .ok (.iastore, 1) := by decide +kernel
theorem dX2_restFits_123 : decode cX2_restFits 123 = .ok (.iinc 3 1, 3) := by decide +kernel
theorem dX2_restFits_126 : decode cX2_restFits 126 = .ok (.goto (-124), 3) := by decide +kernel
theorem dX2_restFits_129 : decode cX2_restFits 129 = .ok (.iconst 1, 1) := by decide +kernel
theorem dX2_restFits_130 : decode cX2_restFits 130 = .ok (.ireturn, 1) := by decide +kernel
theorem dX3_init_0 : decode cX3_init 0 = .ok (.aload_n 0, 1) := by decide +kernel
theorem dX3_init_1 : decode cX3_init 1 = .ok (.invokespecial 3, 3) := by decide +kernel
theorem dX3_init_4 : decode cX3_init 4 = .ok (.aload_n 0, 1) := by decide +kernel
theorem dX3_init_5 : decode cX3_init 5 = .ok (.bipush 15, 2) := by decide +kernel
theorem dX3_init_7 : decode cX3_init 7 = .ok (.newarray .int, 2) := by decide +kernel
theorem dX3_init_9 : decode cX3_init 9 = .ok (.putfield 9, 3) := by decide +kernel
theorem dX3_init_12 : decode cX3_init 12 = .ok (.aload_n 0, 1) := by decide +kernel
theorem dX3_init_13 : decode cX3_init 13 = .ok (.iconst 0, 1) := by decide +kernel
theorem dX3_init_14 : decode cX3_init 14 = .ok (.putfield 15, 3) := by decide +kernel
theorem dX3_init_17 : decode cX3_init 17 = .ok (.aload_n 0, 1) := by decide +kernel
theorem dX3_init_18 : decode cX3_init 18 = .ok (.iconst 3, 1) := by decide +kernel
theorem dX3_init_19 : decode cX3_init 19 = .ok (.newarray .long, 2) := by decide +kernel
theorem dX3_init_21 : decode cX3_init 21 = .ok (.putfield 19, 3) := by decide +kernel
theorem dX3_init_24 : decode cX3_init 24 = .ok (.return_, 1) := by decide +kernel
theorem dX3_hasPlace_0 : decode cX3_hasPlace 0 = .ok (.iload_n 1, 1) := by decide +kernel
theorem dX3_hasPlace_1 : decode cX3_hasPlace 1 = .ok (.ifCond .lt 15, 3) := by decide +kernel
theorem dX3_hasPlace_4 : decode cX3_hasPlace 4 = .ok (.iload_n 1, 1) := by decide +kernel
theorem dX3_hasPlace_5 : decode cX3_hasPlace 5 = .ok (.aload_n 0, 1) := by decide +kernel
theorem dX3_hasPlace_6 : decode cX3_hasPlace 6 = .ok (.getfield 15, 3) := by decide +kernel
theorem dX3_hasPlace_9 : decode cX3_hasPlace 9 = .ok (.if_icmp .ge 7, 3) := by decide +kernel
theorem dX3_hasPlace_12 : decode cX3_hasPlace 12 = .ok (.iconst 1, 1) := by decide +kernel
theorem dX3_hasPlace_13 : decode cX3_hasPlace 13 = .ok (.goto 4, 3) := by decide +kernel
theorem dX3_hasPlace_16 : decode cX3_hasPlace 16 = .ok (.iconst 0, 1) := by decide +kernel
theorem dX3_hasPlace_17 : decode cX3_hasPlace 17 = .ok (.ireturn, 1) := by decide +kernel
theorem dX3_hasCell_0 : decode cX3_hasCell 0 = .ok (.iload_n 1, 1) := by decide +kernel
theorem dX3_hasCell_1 : decode cX3_hasCell 1 = .ok (.ifCond .lt 9, 3) := by decide +kernel
theorem dX3_hasCell_4 : decode cX3_hasCell 4 = .ok (.iload_n 1, 1) := by decide +kernel
theorem dX3_hasCell_5 : decode cX3_hasCell 5 = .ok (.bipush 15, 2) := by decide +kernel
theorem dX3_hasCell_7 : decode cX3_hasCell 7 = .ok (.if_icmp .lt 5, 3) := by decide +kernel
theorem dX3_hasCell_10 : decode cX3_hasCell 10 = .ok (.iconst 0, 1) := by decide +kernel
theorem dX3_hasCell_11 : decode cX3_hasCell 11 = .ok (.ireturn, 1) := by decide +kernel
theorem dX3_hasCell_12 : decode cX3_hasCell 12 = .ok (.iload_n 1, 1) := by decide +kernel
theorem dX3_hasCell_13 : decode cX3_hasCell 13 = .ok (.iconst 3, 1) := by decide +kernel
theorem dX3_hasCell_14 : decode cX3_hasCell 14 = .ok (.irem, 1) := by decide +kernel
theorem dX3_hasCell_15 : decode cX3_hasCell 15 = .ok (.aload_n 0, 1) := by decide +kernel
theorem dX3_hasCell_16 : decode cX3_hasCell 16 = .ok (.getfield 15, 3) := by decide +kernel
theorem dX3_hasCell_19 : decode cX3_hasCell 19 = .ok (.if_icmp .ge 23, 3) := by decide +kernel
theorem dX3_hasCell_22 : decode cX3_hasCell 22 = .ok (.iload_n 1, 1) := by decide +kernel
theorem dX3_hasCell_23 : decode cX3_hasCell 23 = .ok (.bipush 9, 2) := by decide +kernel
theorem dX3_hasCell_25 : decode cX3_hasCell 25 = .ok (.if_icmp .ge 13, 3) := by decide +kernel
theorem dX3_hasCell_28 : decode cX3_hasCell 28 = .ok (.iload_n 1, 1) := by decide +kernel
theorem dX3_hasCell_29 : decode cX3_hasCell 29 = .ok (.iconst 3, 1) := by decide +kernel
theorem dX3_hasCell_30 : decode cX3_hasCell 30 = .ok (.idiv, 1) := by decide +kernel
theorem dX3_hasCell_31 : decode cX3_hasCell 31 = .ok (.aload_n 0, 1) := by decide +kernel
theorem dX3_hasCell_32 : decode cX3_hasCell 32 = .ok (.getfield 15, 3) := by decide +kernel
theorem dX3_hasCell_35 : decode cX3_hasCell 35 = .ok (.if_icmp .ge 7, 3) := by decide +kernel
theorem dX3_hasCell_38 : decode cX3_hasCell 38 = .ok (.iconst 1, 1) := by decide +kernel
theorem dX3_hasCell_39 : decode cX3_hasCell 39 = .ok (.goto 4, 3) := by decide +kernel
theorem dX3_hasCell_42 : decode cX3_hasCell 42 = .ok (.iconst 0, 1) := by decide +kernel
theorem dX3_hasCell_43 : decode cX3_hasCell 43 = .ok (.ireturn, 1) := by decide +kernel
theorem dX3_goOn_0 : decode cX3_goOn 0 = .ok (.iconst 0, 1) := by decide +kernel
theorem dX3_goOn_1 : decode cX3_goOn 1 = .ok (.istore 4, 2) := by decide +kernel
theorem dX3_goOn_3 : decode cX3_goOn 3 = .ok (.iload 4, 2) := by decide +kernel
theorem dX3_goOn_5 : decode cX3_goOn 5 = .ok (.iconst 3, 1) := by decide +kernel
theorem dX3_goOn_6 : decode cX3_goOn 6 = .ok (.if_icmp .ge 74, 3) := by decide +kernel
theorem dX3_goOn_9 : decode cX3_goOn 9 = .ok (.lconst 0, 1) := by decide +kernel
theorem dX3_goOn_10 : decode cX3_goOn 10 = .ok (.lstore 5, 2) := by decide +kernel
theorem dX3_goOn_12 : decode cX3_goOn 12 = .ok (.iconst 0, 1) := by decide +kernel
theorem dX3_goOn_13 : decode cX3_goOn 13 = .ok (.istore 7, 2) := by decide +kernel
theorem dX3_goOn_15 : decode cX3_goOn 15 = .ok (.iload 7, 2) := by decide +kernel
theorem dX3_goOn_17 : decode cX3_goOn 17 = .ok (.iconst 3, 1) := by decide +kernel
theorem dX3_goOn_18 : decode cX3_goOn 18 = .ok (.if_icmp .ge 50, 3) := by decide +kernel
theorem dX3_goOn_21 : decode cX3_goOn 21 = .ok (.iload_n 1, 1) := by decide +kernel
theorem dX3_goOn_22 : decode cX3_goOn 22 = .ok (.ifCond .eq 13, 3) := by decide +kernel
theorem dX3_goOn_25 : decode cX3_goOn 25 = .ok (.iconst 3, 1) := by decide +kernel
theorem dX3_goOn_26 : decode cX3_goOn 26 = .ok (.iload 7, 2) := by decide +kernel
theorem dX3_goOn_28 : decode cX3_goOn 28 = .ok (.imul, 1) := by decide +kernel
theorem dX3_goOn_29 : decode cX3_goOn 29 = .ok (.iload 4, 2) := by decide +kernel
theorem dX3_goOn_31 : decode cX3_goOn 31 = .ok (.iadd, 1) := by decide +kernel
theorem dX3_goOn_32 : decode cX3_goOn 32 = .ok (.goto 10, 3) := by decide +kernel
theorem dX3_goOn_35 : decode cX3_goOn 35 = .ok (.iconst 3, 1) := by decide +kernel
theorem dX3_goOn_36 : decode cX3_goOn 36 = .ok (.iload 4, 2) := by decide +kernel
theorem dX3_goOn_38 : decode cX3_goOn 38 = .ok (.imul, 1) := by decide +kernel
theorem dX3_goOn_39 : decode cX3_goOn 39 = .ok (.iload 7, 2) := by decide +kernel
theorem dX3_goOn_41 : decode cX3_goOn 41 = .ok (.iadd, 1) := by decide +kernel
theorem dX3_goOn_42 : decode cX3_goOn 42 = .ok (.istore 8, 2) := by decide +kernel
theorem dX3_goOn_44 : decode cX3_goOn 44 = .ok (.lload 5, 2) := by decide +kernel
theorem dX3_goOn_46 : decode cX3_goOn 46 = .ok (.aload_n 0, 1) := by decide +kernel
theorem dX3_goOn_47 : decode cX3_goOn 47 = .ok (.getfield 9, 3) := by decide +kernel
theorem dX3_goOn_50 : decode cX3_goOn 50 = .ok (.iload 8, 2) := by decide +kernel
theorem dX3_goOn_52 : decode cX3_goOn 52 = .ok (.iaload, 1) := by decide +kernel
theorem dX3_goOn_53 : decode cX3_goOn 53 = .ok (.i2l, 1) := by decide +kernel
theorem dX3_goOn_54 : decode cX3_goOn 54 = .ok (.aload_n 2, 1) := by decide +kernel
theorem dX3_goOn_55 : decode cX3_goOn 55 = .ok (.iload 7, 2) := by decide +kernel
theorem dX3_goOn_57 : decode cX3_goOn 57 = .ok (.laload, 1) := by decide +kernel
theorem dX3_goOn_58 : decode cX3_goOn 58 = .ok (.lmul, 1) := by decide +kernel
theorem dX3_goOn_59 : decode cX3_goOn 59 = .ok (.ladd, 1) := by decide +kernel
theorem dX3_goOn_60 : decode cX3_goOn 60 = .ok (.lstore 5, 2) := by decide +kernel
theorem dX3_goOn_62 : decode cX3_goOn 62 = .ok (.iinc 7 1, 3) := by decide +kernel
theorem dX3_goOn_65 : decode cX3_goOn 65 = .ok (.goto (-50), 3) := by decide +kernel
theorem dX3_goOn_68 : decode cX3_goOn 68 = .ok (.aload_n 3, 1) := by decide +kernel
theorem dX3_goOn_69 : decode cX3_goOn 69 = .ok (.iload 4, 2) := by decide +kernel
theorem dX3_goOn_71 : decode cX3_goOn 71 = .ok (.lload 5, 2) := by decide +kernel
theorem dX3_goOn_73 : decode cX3_goOn 73 = .ok (.lastore, 1) := by decide +kernel
theorem dX3_goOn_74 : decode cX3_goOn 74 = .ok (.iinc 4 1, 3) := by decide +kernel
theorem dX3_goOn_77 : decode cX3_goOn 77 = .ok (.goto (-74), 3) := by decide +kernel
theorem dX3_goOn_80 : decode cX3_goOn 80 = .ok (.return_, 1) := by decide +kernel
set_option maxRecDepth 20000 in
theorem ggX3_carry_X3_goOn : GoodIn wsX3_carry wsX3_goOn := goodIn_r _ [6, 7, 11, 12, 13] (by decide +kernel) (by decide +kernel)
set_option maxRecDepth 20000 in
theorem gX3_carry_X3_goOn : GoodIn wsX3_carry (wsV RX3 23 RX3 yX3_goOn wsX3_goOn) := goodIn_app (goodIn_of _ (by decide +kernel)) ggX3_carry_X3_goOn
set_option maxRecDepth 20000 in
theorem ggX3_carry_X4_copy : GoodIn wsX3_carry wsX4_copy := goodIn_r _ [10] (by decide +kernel) (by decide +kernel)
set_option maxRecDepth 20000 in
theorem gX3_carry_X4_copy_n27 : GoodIn wsX3_carry (wsX4_copy) := ggX3_carry_X4_copy
theorem dX3_carry_0 : decode cX3_carry 0 = .ok (.iconst 0, 1) := by decide +kernel
theorem dX3_carry_1 : decode cX3_carry 1 = .ok (.istore 4, 2) := by decide +kernel
theorem dX3_carry_3 : decode cX3_carry 3 = .ok (.iload 4, 2) := by decide +kernel
theorem dX3_carry_5 : decode cX3_carry 5 = .ok (.iload_n 3, 1) := by decide +kernel
theorem dX3_carry_6 : decode cX3_carry 6 = .ok (.if_icmp .ge 27, 3) := by decide +kernel
theorem dX3_carry_9 : decode cX3_carry 9 = .ok (.aload_n 0, 1) := by decide +kernel
theorem dX3_carry_10 : decode cX3_carry 10 = .ok (.iload_n 1, 1) := by decide +kernel
theorem dX3_carry_11 : decode cX3_carry 11 = .ok (.aload_n 2, 1) := by decide +kernel
theorem dX3_carry_12 : decode cX3_carry 12 = .ok (.aload_n 0, 1) := by decide +kernel
theorem dX3_carry_13 : decode cX3_carry 13 = .ok (.getfield 19, 3) := by decide +kernel
theorem dX3_carry_16 : decode cX3_carry 16 = .ok (.invokevirtual 23, 3) := by decide +kernel
theorem dX3_carry_19 : decode cX3_carry 19 = .ok (.aload_n 0, 1) := by decide +kernel
theorem dX3_carry_20 : decode cX3_carry 20 = .ok (.getfield 19, 3) := by decide +kernel
theorem dX3_carry_23 : decode cX3_carry 23 = .ok (.aload_n 2, 1) := by decide +kernel
theorem dX3_carry_24 : decode cX3_carry 24 = .ok (.invokestatic 27, 3) := by decide +kernel
theorem dX3_carry_27 : decode cX3_carry 27 = .ok (.iinc 4 1, 3) := by decide +kernel
theorem dX3_carry_30 : decode cX3_carry 30 = .ok (.goto (-27), 3) := by decide +kernel
theorem dX3_carry_33 : decode cX3_carry 33 = .ok (.return_, 1) := by decide +kernel
theorem dX3_seen_0 : decode cX3_seen 0 = .ok (.aload_n 0, 1) := by decide +kernel
theorem dX3_seen_1 : decode cX3_seen 1 = .ok (.getfield 9, 3) := by decide +kernel
theorem dX3_seen_4 : decode cX3_seen 4 = .ok (.bipush 12, 2) := by decide +kernel
theorem dX3_seen_6 : decode cX3_seen 6 = .ok (.iaload, 1) := by decide +kernel
theorem dX3_seen_7 : decode cX3_seen 7 = .ok (.i2l, 1) := by decide +kernel
theorem dX3_seen_8 : decode cX3_seen 8 = .ok (.aload_n 1, 1) := by decide +kernel
theorem dX3_seen_9 : decode cX3_seen 9 = .ok (.iconst 0, 1) := by decide +kernel
theorem dX3_seen_10 : decode cX3_seen 10 = .ok (.laload, 1) := by decide +kernel
theorem dX3_seen_11 : decode cX3_seen 11 = .ok (.lmul, 1) := by decide +kernel
theorem dX3_seen_12 : decode cX3_seen 12 = .ok (.aload_n 0, 1) := by decide +kernel
theorem dX3_seen_13 : decode cX3_seen 13 = .ok (.getfield 9, 3) := by decide +kernel
theorem dX3_seen_16 : decode cX3_seen 16 = .ok (.bipush 13, 2) := by decide +kernel
theorem dX3_seen_18 : decode cX3_seen 18 = .ok (.iaload, 1) := by decide +kernel
theorem dX3_seen_19 : decode cX3_seen 19 = .ok (.i2l, 1) := by decide +kernel
theorem dX3_seen_20 : decode cX3_seen 20 = .ok (.aload_n 1, 1) := by decide +kernel
theorem dX3_seen_21 : decode cX3_seen 21 = .ok (.iconst 1, 1) := by decide +kernel
theorem dX3_seen_22 : decode cX3_seen 22 = .ok (.laload, 1) := by decide +kernel
theorem dX3_seen_23 : decode cX3_seen 23 = .ok (.lmul, 1) := by decide +kernel
theorem dX3_seen_24 : decode cX3_seen 24 = .ok (.ladd, 1) := by decide +kernel
theorem dX3_seen_25 : decode cX3_seen 25 = .ok (.aload_n 0, 1) := by decide +kernel
theorem dX3_seen_26 : decode cX3_seen 26 = .ok (.getfield 9, 3) := by decide +kernel
theorem dX3_seen_29 : decode cX3_seen 29 = .ok (.bipush 14, 2) := by decide +kernel
theorem dX3_seen_31 : decode cX3_seen 31 = .ok (.iaload, 1) := by decide +kernel
theorem dX3_seen_32 : decode cX3_seen 32 = .ok (.i2l, 1) := by decide +kernel
theorem dX3_seen_33 : decode cX3_seen 33 = .ok (.aload_n 1, 1) := by decide +kernel
theorem dX3_seen_34 : decode cX3_seen 34 = .ok (.iconst 2, 1) := by decide +kernel
theorem dX3_seen_35 : decode cX3_seen 35 = .ok (.laload, 1) := by decide +kernel
theorem dX3_seen_36 : decode cX3_seen 36 = .ok (.lmul, 1) := by decide +kernel
theorem dX3_seen_37 : decode cX3_seen 37 = .ok (.ladd, 1) := by decide +kernel
theorem dX3_seen_38 : decode cX3_seen 38 = .ok (.lreturn, 1) := by decide +kernel
set_option maxRecDepth 20000 in
theorem ggX4_init_X1_init : GoodIn wsX4_init wsX1_init := goodIn_r _ [30, 31, 2, 3, 32, 33, 34, 35, 36, 37, 38, 70, 71, 72, 73, 74, 75] (by decide +kernel) (by decide +kernel)
set_option maxRecDepth 20000 in
theorem gX4_init_X1_init_n9 : GoodIn wsX4_init (wsX1_init) := ggX4_init_X1_init
set_option maxRecDepth 20000 in
theorem ggX4_init_X3_init : GoodIn wsX4_init wsX3_init := goodIn_r _ [40, 41, 2, 3, 32, 42, 43, 21, 44, 88, 89, 90] (by decide +kernel) (by decide +kernel)
set_option maxRecDepth 20000 in
theorem gX4_init_X3_init_n18 : GoodIn wsX4_init (wsX3_init) := ggX4_init_X3_init
set_option maxRecDepth 20000 in
theorem ggX4_init_X0_init : GoodIn wsX4_init wsX0_init := goodIn_r _ [47, 48, 2, 3, 49, 21, 50, 51, 52, 53, 54, 55, 56, 57, 91, 92, 93, 94, 95, 96, 97, 98] (by decide +kernel) (by decide +kernel)
set_option maxRecDepth 20000 in
theorem gX4_init_X0_init : GoodIn wsX4_init (wsX0_init) := ggX4_init_X0_init
set_option maxRecDepth 20000 in
theorem ggX4_init_X2_init : GoodIn wsX4_init wsX2_init := goodIn_r _ [59, 60, 2, 3, 32, 61, 62, 21, 63, 64, 65, 66, 67, 68, 69, 99, 100, 101, 102, 103, 104, 105, 106] (by decide +kernel) (by decide +kernel)
set_option maxRecDepth 20000 in
theorem gX4_init_X2_init_n37 : GoodIn wsX4_init (wsX2_init) := ggX4_init_X2_init
theorem dX4_init_0 : decode cX4_init 0 = .ok (.aload_n 0, 1) := by decide +kernel
theorem dX4_init_1 : decode cX4_init 1 = .ok (.invokespecial 1, 3) := by decide +kernel
theorem dX4_init_4 : decode cX4_init 4 = .ok (.aload_n 0, 1) := by decide +kernel
theorem dX4_init_5 : decode cX4_init 5 = .ok (.new 7, 3) := by decide +kernel
theorem dX4_init_8 : decode cX4_init 8 = .ok (.dup, 1) := by decide +kernel
theorem dX4_init_9 : decode cX4_init 9 = .ok (.invokespecial 9, 3) := by decide +kernel
theorem dX4_init_12 : decode cX4_init 12 = .ok (.putfield 10, 3) := by decide +kernel
theorem dX4_init_15 : decode cX4_init 15 = .ok (.aload_n 0, 1) := by decide +kernel
theorem dX4_init_16 : decode cX4_init 16 = .ok (.new 16, 3) := by decide +kernel
theorem dX4_init_19 : decode cX4_init 19 = .ok (.dup, 1) := by decide +kernel
theorem dX4_init_20 : decode cX4_init 20 = .ok (.invokespecial 18, 3) := by decide +kernel
theorem dX4_init_23 : decode cX4_init 23 = .ok (.putfield 19, 3) := by decide +kernel
theorem dX4_init_26 : decode cX4_init 26 = .ok (.aload_n 0, 1) := by decide +kernel
theorem dX4_init_27 : decode cX4_init 27 = .ok (.new 23, 3) := by decide +kernel
theorem dX4_init_30 : decode cX4_init 30 = .ok (.dup, 1) := by decide +kernel
theorem dX4_init_31 : decode cX4_init 31 = .ok (.iconst 0, 1) := by decide +kernel
theorem dX4_init_32 : decode cX4_init 32 = .ok (.invokespecial 25, 3) := by decide +kernel
theorem dX4_init_35 : decode cX4_init 35 = .ok (.putfield 28, 3) := by decide +kernel
theorem dX4_init_38 : decode cX4_init 38 = .ok (.aload_n 0, 1) := by decide +kernel
theorem dX4_init_39 : decode cX4_init 39 = .ok (.new 23, 3) := by decide +kernel
theorem dX4_init_42 : decode cX4_init 42 = .ok (.dup, 1) := by decide +kernel
theorem dX4_init_43 : decode cX4_init 43 = .ok (.iconst 1, 1) := by decide +kernel
theorem dX4_init_44 : decode cX4_init 44 = .ok (.invokespecial 25, 3) := by decide +kernel
theorem dX4_init_47 : decode cX4_init 47 = .ok (.putfield 32, 3) := by decide +kernel
theorem dX4_init_50 : decode cX4_init 50 = .ok (.aload_n 0, 1) := by decide +kernel
theorem dX4_init_51 : decode cX4_init 51 = .ok (.new 35, 3) := by decide +kernel
theorem dX4_init_54 : decode cX4_init 54 = .ok (.dup, 1) := by decide +kernel
theorem dX4_init_55 : decode cX4_init 55 = .ok (.invokespecial 37, 3) := by decide +kernel
theorem dX4_init_58 : decode cX4_init 58 = .ok (.putfield 38, 3) := by decide +kernel
theorem dX4_init_61 : decode cX4_init 61 = .ok (.aload_n 0, 1) := by decide +kernel
theorem dX4_init_62 : decode cX4_init 62 = .ok (.iconst 3, 1) := by decide +kernel
theorem dX4_init_63 : decode cX4_init 63 = .ok (.newarray .long, 2) := by decide +kernel
theorem dX4_init_65 : decode cX4_init 65 = .ok (.putfield 42, 3) := by decide +kernel
theorem dX4_init_68 : decode cX4_init 68 = .ok (.aload_n 0, 1) := by decide +kernel
theorem dX4_init_69 : decode cX4_init 69 = .ok (.iconst 3, 1) := by decide +kernel
theorem dX4_init_70 : decode cX4_init 70 = .ok (.newarray .long, 2) := by decide +kernel
theorem dX4_init_72 : decode cX4_init 72 = .ok (.putfield 46, 3) := by decide +kernel
theorem dX4_init_75 : decode cX4_init 75 = .ok (.aload_n 0, 1) := by decide +kernel
theorem dX4_init_76 : decode cX4_init 76 = .ok (.iconst 3, 1) := by decide +kernel
theorem dX4_init_77 : decode cX4_init 77 = .ok (.newarray .long, 2) := by decide +kernel
theorem dX4_init_79 : decode cX4_init 79 = .ok (.putfield 49, 3) := by decide +kernel
theorem dX4_init_82 : decode cX4_init 82 = .ok (.aload_n 0, 1) := by decide +kernel
theorem dX4_init_83 : decode cX4_init 83 = .ok (.iconst 2, 1) := by decide +kernel
theorem dX4_init_84 : decode cX4_init 84 = .ok (.putfield 52, 3) := by decide +kernel
theorem dX4_init_87 : decode cX4_init 87 = .ok (.aload_n 0, 1) := by decide +kernel
theorem dX4_init_88 : decode cX4_init 88 = .ok (.iconst 0, 1) := by decide +kernel
theorem dX4_init_89 : decode cX4_init 89 = .ok (.putfield 56, 3) := by decide +kernel
theorem dX4_init_92 : decode cX4_init 92 = .ok (.aload_n 0, 1) := by decide +kernel
theorem dX4_init_93 : decode cX4_init 93 = .ok (.iconst 0, 1) := by decide +kernel
theorem dX4_init_94 : decode cX4_init 94 = .ok (.putfield 59, 3) := by decide +kernel
theorem dX4_init_97 : decode cX4_init 97 = .ok (.aload_n 0, 1) := by decide +kernel
theorem dX4_init_98 : decode cX4_init 98 = .ok (.iconst 0, 1) := by decide +kernel
theorem dX4_init_99 : decode cX4_init 99 = .ok (.putfield 62, 3) := by decide +kernel
theorem dX4_init_102 : decode cX4_init 102 = .ok (.return_, 1) := by decide +kernel
set_option maxRecDepth 20000 in
theorem ggX4_letter_X1_write : GoodIn wsX4_letter wsX1_write := goodIn_r _ [9, 10, 11, 24, 25, 26, 27, 28, 29] (by decide +kernel) (by decide +kernel)
set_option maxRecDepth 20000 in
theorem gX4_letter_X1_write : GoodIn wsX4_letter (wsV RX4 73 RX1 yX1_write wsX1_write) := goodIn_app (goodIn_of _ (by decide +kernel)) ggX4_letter_X1_write
theorem dX4_letter_0 : decode cX4_letter 0 = .ok (.iload_n 1, 1) := by decide +kernel
theorem dX4_letter_1 : decode cX4_letter 1 = .ok (.bipush 32, 2) := by decide +kernel
theorem dX4_letter_3 : decode cX4_letter 3 = .ok (.if_icmp .lt 9, 3) := by decide +kernel
theorem dX4_letter_6 : decode cX4_letter 6 = .ok (.iload_n 1, 1) := by decide +kernel
theorem dX4_letter_7 : decode cX4_letter 7 = .ok (.bipush 126, 2) := by decide +kernel
theorem dX4_letter_9 : decode cX4_letter 9 = .ok (.if_icmp .le 7, 3) := by decide +kernel
theorem dX4_letter_12 : decode cX4_letter 12 = .ok (.ldc2_w 66, 3) := by decide +kernel
theorem dX4_letter_15 : decode cX4_letter 15 = .ok (.lreturn, 1) := by decide +kernel
theorem dX4_letter_16 : decode cX4_letter 16 = .ok (.aload_n 0, 1) := by decide +kernel
theorem dX4_letter_17 : decode cX4_letter 17 = .ok (.getfield 10, 3) := by decide +kernel
theorem dX4_letter_20 : decode cX4_letter 20 = .ok (.getfield 68, 3) := by decide +kernel
theorem dX4_letter_23 : decode cX4_letter 23 = .ok (.bipush 46, 2) := by decide +kernel
theorem dX4_letter_25 : decode cX4_letter 25 = .ok (.if_icmp .lt 7, 3) := by decide +kernel
theorem dX4_letter_28 : decode cX4_letter 28 = .ok (.ldc2_w 71, 3) := by decide +kernel
theorem dX4_letter_31 : decode cX4_letter 31 = .ok (.lreturn, 1) := by decide +kernel
theorem dX4_letter_32 : decode cX4_letter 32 = .ok (.aload_n 0, 1) := by decide +kernel
theorem dX4_letter_33 : decode cX4_letter 33 = .ok (.getfield 10, 3) := by decide +kernel
theorem dX4_letter_36 : decode cX4_letter 36 = .ok (.iload_n 1, 1) := by decide +kernel
theorem dX4_letter_37 : decode cX4_letter 37 = .ok (.invokevirtual 73, 3) := by decide +kernel
theorem dX4_letter_40 : decode cX4_letter 40 = .ok (.aload_n 0, 1) := by decide +kernel
theorem dX4_letter_41 : decode cX4_letter 41 = .ok (.getfield 10, 3) := by decide +kernel
theorem dX4_letter_44 : decode cX4_letter 44 = .ok (.getfield 68, 3) := by decide +kernel
theorem dX4_letter_47 : decode cX4_letter 47 = .ok (.i2l, 1) := by decide +kernel
theorem dX4_letter_48 : decode cX4_letter 48 = .ok (.lreturn, 1) := by decide +kernel
theorem dX4_blank_0 : decode cX4_blank 0 = .ok (.aload_n 0, 1) := by decide +kernel
theorem dX4_blank_1 : decode cX4_blank 1 = .ok (.getfield 10, 3) := by decide +kernel
theorem dX4_blank_4 : decode cX4_blank 4 = .ok (.getfield 68, 3) := by decide +kernel
theorem dX4_blank_7 : decode cX4_blank 7 = .ok (.istore_n 1, 1) := by decide +kernel
theorem dX4_blank_8 : decode cX4_blank 8 = .ok (.aload_n 0, 1) := by decide +kernel
theorem dX4_blank_9 : decode cX4_blank 9 = .ok (.getfield 10, 3) := by decide +kernel
theorem dX4_blank_12 : decode cX4_blank 12 = .ok (.iconst 0, 1) := by decide +kernel
theorem dX4_blank_13 : decode cX4_blank 13 = .ok (.putfield 68, 3) := by decide +kernel
theorem dX4_blank_16 : decode cX4_blank 16 = .ok (.iload_n 1, 1) := by decide +kernel
theorem dX4_blank_17 : decode cX4_blank 17 = .ok (.i2l, 1) := by decide +kernel
theorem dX4_blank_18 : decode cX4_blank 18 = .ok (.lreturn, 1) := by decide +kernel
set_option maxRecDepth 20000 in
theorem ggX4_fault_X1_wellBegun : GoodIn wsX4_fault wsX1_wellBegun := goodIn_r _ [6, 7, 8, 9, 10, 11, 12, 13, 14, 5, 15, 16, 17, 18, 19, 20, 21, 22, 23, 24, 25, 26, 27, 28, 29, 30, 31, 32, 33, 34, 35, 36, 37, 38, 39, 40, 53, 54, 55, 56, 57, 58] (by decide +kernel) (by decide +kernel)
set_option maxRecDepth 20000 in
theorem gX4_fault_X1_wellBegun : GoodIn wsX4_fault (wsV RX4 77 RX1 yX1_wellBegun wsX1_wellBegun) := goodIn_app (goodIn_of _ (by decide +kernel)) ggX4_fault_X1_wellBegun
theorem dX4_fault_0 : decode cX4_fault 0 = .ok (.aload_n 0, 1) := by decide +kernel
theorem dX4_fault_1 : decode cX4_fault 1 = .ok (.getfield 10, 3) := by decide +kernel
theorem dX4_fault_4 : decode cX4_fault 4 = .ok (.invokevirtual 77, 3) := by decide +kernel
theorem dX4_fault_7 : decode cX4_fault 7 = .ok (.i2l, 1) := by decide +kernel
theorem dX4_fault_8 : decode cX4_fault 8 = .ok (.lreturn, 1) := by decide +kernel
set_option maxRecDepth 20000 in
theorem ggX4_plant_X1_isPlant : GoodIn wsX4_plant wsX1_isPlant := goodIn_r _ [12, 13, 14, 15, 16, 17, 18, 11, 19, 20, 21, 22, 23, 24, 25, 26, 27, 28, 29, 30, 31, 32, 33, 34, 35, 36, 37, 38, 39, 40, 41, 42, 43, 44, 45, 46, 47, 48, 49, 50, 131, 132, 133, 134, 135, 136] (by decide +kernel) (by decide +kernel)
set_option maxRecDepth 20000 in
theorem gX4_plant_X1_isPlant : GoodIn wsX4_plant (wsV RX4 81 RX1 yX1_isPlant wsX1_isPlant) := goodIn_app (goodIn_of _ (by decide +kernel)) ggX4_plant_X1_isPlant
set_option maxRecDepth 20000 in
theorem ggX4_plant_X1_copyTo : GoodIn wsX4_plant wsX1_copyTo := goodIn_r _ [54, 55, 14, 56, 46, 57, 58, 59, 60, 61, 62, 137, 138, 139, 131, 132, 133, 134, 135, 136] (by decide +kernel) (by decide +kernel)
set_option maxRecDepth 20000 in
theorem gX4_plant_X1_copyTo : GoodIn wsX4_plant (wsV RX4 87 RX1 yX1_copyTo wsX1_copyTo) := goodIn_app (goodIn_of _ (by decide +kernel)) ggX4_plant_X1_copyTo
set_option maxRecDepth 20000 in
theorem ggX4_plant_X4_plantChanged : GoodIn wsX4_plant wsX4_plantChanged := goodIn_r _ [67, 68, 3, 69, 70, 71, 72, 73, 74, 75, 76, 77, 78, 79, 80, 81, 82, 83, 84, 60, 85, 86, 87, 88, 89, 90, 91, 92, 93, 66, 94, 95, 96, 97, 98, 99, 100, 101, 102, 103, 104, 105, 106, 107, 108, 109, 110, 111, 112, 113, 114, 115, 116, 117, 118, 119, 120, 121, 122, 123, 124, 125, 126, 127, 128, 129, 130, 140, 141, 142, 143, 144, 145, 146, 147, 137, 138, 139] (by decide +kernel) (by decide +kernel)
set_option maxRecDepth 20000 in
theorem gX4_plant_X4_plantChanged : GoodIn wsX4_plant (wsV RX4 91 RX4 yX4_plantChanged wsX4_plantChanged) := goodIn_app (goodIn_of _ (by decide +kernel)) ggX4_plant_X4_plantChanged
theorem dX4_plant_0 : decode cX4_plant 0 = .ok (.aload_n 0, 1) := by decide +kernel
theorem dX4_plant_1 : decode cX4_plant 1 = .ok (.getfield 10, 3) := by decide +kernel
theorem dX4_plant_4 : decode cX4_plant 4 = .ok (.invokevirtual 81, 3) := by decide +kernel
theorem dX4_plant_7 : decode cX4_plant 7 = .ok (.ifCond .ne 7, 3) := by decide +kernel
theorem dX4_plant_10 : decode cX4_plant 10 = .ok (.ldc2_w 85, 3) := by decide +kernel
theorem dX4_plant_13 : decode cX4_plant 13 = .ok (.lreturn, 1) := by decide +kernel
theorem dX4_plant_14 : decode cX4_plant 14 = .ok (.aload_n 0, 1) := by decide +kernel
theorem dX4_plant_15 : decode cX4_plant 15 = .ok (.getfield 10, 3) := by decide +kernel
theorem dX4_plant_18 : decode cX4_plant 18 = .ok (.aload_n 0, 1) := by decide +kernel
theorem dX4_plant_19 : decode cX4_plant 19 = .ok (.getfield 19, 3) := by decide +kernel
theorem dX4_plant_22 : decode cX4_plant 22 = .ok (.invokevirtual 87, 3) := by decide +kernel
theorem dX4_plant_25 : decode cX4_plant 25 = .ok (.aload_n 0, 1) := by decide +kernel
theorem dX4_plant_26 : decode cX4_plant 26 = .ok (.getfield 10, 3) := by decide +kernel
theorem dX4_plant_29 : decode cX4_plant 29 = .ok (.iconst 0, 1) := by decide +kernel
theorem dX4_plant_30 : decode cX4_plant 30 = .ok (.putfield 68, 3) := by decide +kernel
theorem dX4_plant_33 : decode cX4_plant 33 = .ok (.iconst 0, 1) := by decide +kernel
theorem dX4_plant_34 : decode cX4_plant 34 = .ok (.istore_n 1, 1) := by decide +kernel
theorem dX4_plant_35 : decode cX4_plant 35 = .ok (.iload_n 1, 1) := by decide +kernel
theorem dX4_plant_36 : decode cX4_plant 36 = .ok (.iconst 3, 1) := by decide +kernel
theorem dX4_plant_37 : decode cX4_plant 37 = .ok (.if_icmp .ge 16, 3) := by decide +kernel
theorem dX4_plant_40 : decode cX4_plant 40 = .ok (.aload_n 0, 1) := by decide +kernel
theorem dX4_plant_41 : decode cX4_plant 41 = .ok (.getfield 42, 3) := by decide +kernel
theorem dX4_plant_44 : decode cX4_plant 44 = .ok (.iload_n 1, 1) := by decide +kernel
theorem dX4_plant_45 : decode cX4_plant 45 = .ok (.lconst 0, 1) := by decide +kernel
theorem dX4_plant_46 : decode cX4_plant 46 = .ok (.lastore, 1) := by decide +kernel
theorem dX4_plant_47 : decode cX4_plant 47 = .ok (.iinc 1 1, 3) := by decide +kernel
theorem dX4_plant_50 : decode cX4_plant 50 = .ok (.goto (-15), 3) := by decide +kernel
theorem dX4_plant_53 : decode cX4_plant 53 = .ok (.aload_n 0, 1) := by decide +kernel
theorem dX4_plant_54 : decode cX4_plant 54 = .ok (.dup, 1) := by decide +kernel
theorem dX4_plant_55 : decode cX4_plant 55 = .ok (.getfield 56, 3) := by decide +kernel
theorem dX4_plant_58 : decode cX4_plant 58 = .ok (.iconst 1, 1) := by decide +kernel
theorem dX4_plant_59 : decode cX4_plant 59 = .ok (.iadd, 1) := by decide +kernel
theorem dX4_plant_60 : decode cX4_plant 60 = .ok (.putfield 56, 3) := by decide +kernel
theorem dX4_plant_63 : decode cX4_plant 63 = .ok (.aload_n 0, 1) := by decide +kernel
theorem dX4_plant_64 : decode cX4_plant 64 = .ok (.invokevirtual 91, 3) := by decide +kernel
theorem dX4_plant_67 : decode cX4_plant 67 = .ok (.aload_n 0, 1) := by decide +kernel
theorem dX4_plant_68 : decode cX4_plant 68 = .ok (.getfield 19, 3) := by decide +kernel
theorem dX4_plant_71 : decode cX4_plant 71 = .ok (.getfield 94, 3) := by decide +kernel
theorem dX4_plant_74 : decode cX4_plant 74 = .ok (.i2l, 1) := by decide +kernel
theorem dX4_plant_75 : decode cX4_plant 75 = .ok (.lreturn, 1) := by decide +kernel
set_option maxRecDepth 20000 in
theorem ggX4_alter_X3_hasCell : GoodIn wsX4_alter wsX3_hasCell := goodIn_r _ [9, 10, 79, 80, 81] (by decide +kernel) (by decide +kernel)
set_option maxRecDepth 20000 in
theorem gX4_alter_X3_hasCell : GoodIn wsX4_alter (wsV RX4 97 RX3 yX3_hasCell wsX3_hasCell) := goodIn_app (goodIn_of _ (by decide +kernel)) ggX4_alter_X3_hasCell
set_option maxRecDepth 20000 in
theorem ggX4_alter_X4_plantChanged : GoodIn wsX4_alter wsX4_plantChanged := goodIn_r _ [15, 16, 1, 17, 18, 19, 20, 21, 22, 23, 24, 25, 26, 27, 28, 29, 30, 31, 32, 8, 33, 34, 35, 36, 37, 38, 39, 40, 41, 14, 42, 43, 44, 45, 46, 47, 48, 49, 50, 51, 52, 53, 54, 55, 56, 57, 58, 59, 60, 61, 62, 63, 64, 65, 66, 67, 68, 69, 70, 71, 72, 73, 74, 75, 76, 77, 78, 82, 83, 84, 85, 86, 87, 88, 89, 79, 80, 81] (by decide +kernel) (by decide +kernel)
set_option maxRecDepth 20000 in
theorem gX4_alter_X4_plantChanged : GoodIn wsX4_alter (wsV RX4 91 RX4 yX4_plantChanged wsX4_plantChanged) := goodIn_app (goodIn_of _ (by decide +kernel)) ggX4_alter_X4_plantChanged
theorem dX4_alter_0 : decode cX4_alter 0 = .ok (.aload_n 0, 1) := by decide +kernel
theorem dX4_alter_1 : decode cX4_alter 1 = .ok (.getfield 19, 3) := by decide +kernel
theorem dX4_alter_4 : decode cX4_alter 4 = .ok (.iload_n 1, 1) := by decide +kernel
theorem dX4_alter_5 : decode cX4_alter 5 = .ok (.invokevirtual 97, 3) := by decide +kernel
theorem dX4_alter_8 : decode cX4_alter 8 = .ok (.ifCond .ne 7, 3) := by decide +kernel
theorem dX4_alter_11 : decode cX4_alter 11 = .ok (.ldc2_w 101, 3) := by decide +kernel
theorem dX4_alter_14 : decode cX4_alter 14 = .ok (.lreturn, 1) := by decide +kernel
theorem dX4_alter_15 : decode cX4_alter 15 = .ok (.iload_n 2, 1) := by decide +kernel
theorem dX4_alter_16 : decode cX4_alter 16 = .ok (.bipush (-2), 2) := by decide +kernel
theorem dX4_alter_18 : decode cX4_alter 18 = .ok (.if_icmp .lt 8, 3) := by decide +kernel
theorem dX4_alter_21 : decode cX4_alter 21 = .ok (.iload_n 2, 1) := by decide +kernel
theorem dX4_alter_22 : decode cX4_alter 22 = .ok (.iconst 2, 1) := by decide +kernel
theorem dX4_alter_23 : decode cX4_alter 23 = .ok (.if_icmp .le 7, 3) := by decide +kernel
theorem dX4_alter_26 : decode cX4_alter 26 = .ok (.ldc2_w 66, 3) := by decide +kernel
theorem dX4_alter_29 : decode cX4_alter 29 = .ok (.lreturn, 1) := by decide +kernel
theorem dX4_alter_30 : decode cX4_alter 30 = .ok (.aload_n 0, 1) := by decide +kernel
theorem dX4_alter_31 : decode cX4_alter 31 = .ok (.getfield 19, 3) := by decide +kernel
theorem dX4_alter_34 : decode cX4_alter 34 = .ok (.getfield 103, 3) := by decide +kernel
theorem dX4_alter_37 : decode cX4_alter 37 = .ok (.iload_n 1, 1) := by decide +kernel
theorem dX4_alter_38 : decode cX4_alter 38 = .ok (.iaload, 1) := by decide +kernel
theorem dX4_alter_39 : decode cX4_alter 39 = .ok (.istore_n 3, 1) := by decide +kernel
theorem dX4_alter_40 : decode cX4_alter 40 = .ok (.aload_n 0, 1) := by decide +kernel
theorem dX4_alter_41 : decode cX4_alter 41 = .ok (.getfield 19, 3) := by decide +kernel
theorem dX4_alter_44 : decode cX4_alter 44 = .ok (.getfield 103, 3) := by decide +kernel
theorem dX4_alter_47 : decode cX4_alter 47 = .ok (.iload_n 1, 1) := by decide +kernel
theorem dX4_alter_48 : decode cX4_alter 48 = .ok (.iload_n 2, 1) := by decide +kernel
theorem dX4_alter_49 : decode cX4_alter 49 = .ok (.iastore, 1) := by decide +kernel
theorem dX4_alter_50 : decode cX4_alter 50 = .ok (.aload_n 0, 1) := by decide +kernel
theorem dX4_alter_51 : decode cX4_alter 51 = .ok (.invokevirtual 91, 3) := by decide +kernel
theorem dX4_alter_54 : decode cX4_alter 54 = .ok (.iload_n 3, 1) := by decide +kernel
theorem dX4_alter_55 : decode cX4_alter 55 = .ok (.i2l, 1) := by decide +kernel
theorem dX4_alter_56 : decode cX4_alter 56 = .ok (.lreturn, 1) := by decide +kernel
set_option maxRecDepth 20000 in
theorem ggX4_has_X3_hasCell : GoodIn wsX4_has wsX3_hasCell := goodIn_r _ [8, 9, 22, 23, 24] (by decide +kernel) (by decide +kernel)
set_option maxRecDepth 20000 in
theorem gX4_has_X3_hasCell : GoodIn wsX4_has (wsV RX4 97 RX3 yX3_hasCell wsX3_hasCell) := goodIn_app (goodIn_of _ (by decide +kernel)) ggX4_has_X3_hasCell
theorem dX4_has_0 : decode cX4_has 0 = .ok (.aload_n 0, 1) := by decide +kernel
theorem dX4_has_1 : decode cX4_has 1 = .ok (.getfield 19, 3) := by decide +kernel
theorem dX4_has_4 : decode cX4_has 4 = .ok (.iload_n 1, 1) := by decide +kernel
theorem dX4_has_5 : decode cX4_has 5 = .ok (.invokevirtual 97, 3) := by decide +kernel
theorem dX4_has_8 : decode cX4_has 8 = .ok (.ifCond .eq 16, 3) := by decide +kernel
theorem dX4_has_11 : decode cX4_has 11 = .ok (.aload_n 0, 1) := by decide +kernel
theorem dX4_has_12 : decode cX4_has 12 = .ok (.getfield 19, 3) := by decide +kernel
theorem dX4_has_15 : decode cX4_has 15 = .ok (.getfield 103, 3) := by decide +kernel
theorem dX4_has_18 : decode cX4_has 18 = .ok (.iload_n 1, 1) := by decide +kernel
theorem dX4_has_19 : decode cX4_has 19 = .ok (.iaload, 1) := by decide +kernel
theorem dX4_has_20 : decode cX4_has 20 = .ok (.i2l, 1) := by decide +kernel
theorem dX4_has_21 : decode cX4_has 21 = .ok (.goto 6, 3) := by decide +kernel
theorem dX4_has_24 : decode cX4_has 24 = .ok (.ldc2_w 101, 3) := by decide +kernel
theorem dX4_has_27 : decode cX4_has 27 = .ok (.lreturn, 1) := by decide +kernel
set_option maxRecDepth 20000 in
theorem ggX4_start_X3_hasPlace : GoodIn wsX4_start wsX3_hasPlace := goodIn_r _ [10, 11, 24, 25, 26] (by decide +kernel) (by decide +kernel)
set_option maxRecDepth 20000 in
theorem gX4_start_X3_hasPlace : GoodIn wsX4_start (wsV RX4 107 RX3 yX3_hasPlace wsX3_hasPlace) := goodIn_app (goodIn_of _ (by decide +kernel)) ggX4_start_X3_hasPlace
theorem dX4_start_0 : decode cX4_start 0 = .ok (.aload_n 0, 1) := by decide +kernel
theorem dX4_start_1 : decode cX4_start 1 = .ok (.getfield 19, 3) := by decide +kernel
theorem dX4_start_4 : decode cX4_start 4 = .ok (.iload_n 1, 1) := by decide +kernel
theorem dX4_start_5 : decode cX4_start 5 = .ok (.invokevirtual 107, 3) := by decide +kernel
theorem dX4_start_8 : decode cX4_start 8 = .ok (.ifCond .ne 7, 3) := by decide +kernel
theorem dX4_start_11 : decode cX4_start 11 = .ok (.ldc2_w 101, 3) := by decide +kernel
theorem dX4_start_14 : decode cX4_start 14 = .ok (.lreturn, 1) := by decide +kernel
theorem dX4_start_15 : decode cX4_start 15 = .ok (.iload_n 2, 1) := by decide +kernel
theorem dX4_start_16 : decode cX4_start 16 = .ok (.bipush (-20), 2) := by decide +kernel
theorem dX4_start_18 : decode cX4_start 18 = .ok (.if_icmp .lt 9, 3) := by decide +kernel
theorem dX4_start_21 : decode cX4_start 21 = .ok (.iload_n 2, 1) := by decide +kernel
theorem dX4_start_22 : decode cX4_start 22 = .ok (.bipush 20, 2) := by decide +kernel
theorem dX4_start_24 : decode cX4_start 24 = .ok (.if_icmp .le 7, 3) := by decide +kernel
theorem dX4_start_27 : decode cX4_start 27 = .ok (.ldc2_w 66, 3) := by decide +kernel
theorem dX4_start_30 : decode cX4_start 30 = .ok (.lreturn, 1) := by decide +kernel
theorem dX4_start_31 : decode cX4_start 31 = .ok (.aload_n 0, 1) := by decide +kernel
theorem dX4_start_32 : decode cX4_start 32 = .ok (.getfield 42, 3) := by decide +kernel
theorem dX4_start_35 : decode cX4_start 35 = .ok (.iload_n 1, 1) := by decide +kernel
theorem dX4_start_36 : decode cX4_start 36 = .ok (.laload, 1) := by decide +kernel
theorem dX4_start_37 : decode cX4_start 37 = .ok (.lstore_n 3, 1) := by decide +kernel
theorem dX4_start_38 : decode cX4_start 38 = .ok (.aload_n 0, 1) := by decide +kernel
theorem dX4_start_39 : decode cX4_start 39 = .ok (.getfield 42, 3) := by decide +kernel
theorem dX4_start_42 : decode cX4_start 42 = .ok (.iload_n 1, 1) := by decide +kernel
theorem dX4_start_43 : decode cX4_start 43 = .ok (.iload_n 2, 1) := by decide +kernel
theorem dX4_start_44 : decode cX4_start 44 = .ok (.i2l, 1) := by decide +kernel
theorem dX4_start_45 : decode cX4_start 45 = .ok (.lastore, 1) := by decide +kernel
theorem dX4_start_46 : decode cX4_start 46 = .ok (.aload_n 0, 1) := by decide +kernel
theorem dX4_start_47 : decode cX4_start 47 = .ok (.iconst 0, 1) := by decide +kernel
theorem dX4_start_48 : decode cX4_start 48 = .ok (.putfield 62, 3) := by decide +kernel
theorem dX4_start_51 : decode cX4_start 51 = .ok (.lload_n 3, 1) := by decide +kernel
theorem dX4_start_52 : decode cX4_start 52 = .ok (.lreturn, 1) := by decide +kernel
theorem dX4_limit_0 : decode cX4_limit 0 = .ok (.iload_n 1, 1) := by decide +kernel
theorem dX4_limit_1 : decode cX4_limit 1 = .ok (.iconst 1, 1) := by decide +kernel
theorem dX4_limit_2 : decode cX4_limit 2 = .ok (.if_icmp .lt 8, 3) := by decide +kernel
theorem dX4_limit_5 : decode cX4_limit 5 = .ok (.iload_n 1, 1) := by decide +kernel
theorem dX4_limit_6 : decode cX4_limit 6 = .ok (.iconst 5, 1) := by decide +kernel
theorem dX4_limit_7 : decode cX4_limit 7 = .ok (.if_icmp .le 7, 3) := by decide +kernel
theorem dX4_limit_10 : decode cX4_limit 10 = .ok (.ldc2_w 66, 3) := by decide +kernel
theorem dX4_limit_13 : decode cX4_limit 13 = .ok (.lreturn, 1) := by decide +kernel
theorem dX4_limit_14 : decode cX4_limit 14 = .ok (.aload_n 0, 1) := by decide +kernel
theorem dX4_limit_15 : decode cX4_limit 15 = .ok (.getfield 52, 3) := by decide +kernel
theorem dX4_limit_18 : decode cX4_limit 18 = .ok (.istore_n 2, 1) := by decide +kernel
theorem dX4_limit_19 : decode cX4_limit 19 = .ok (.aload_n 0, 1) := by decide +kernel
theorem dX4_limit_20 : decode cX4_limit 20 = .ok (.iload_n 1, 1) := by decide +kernel
theorem dX4_limit_21 : decode cX4_limit 21 = .ok (.putfield 52, 3) := by decide +kernel
theorem dX4_limit_24 : decode cX4_limit 24 = .ok (.aload_n 0, 1) := by decide +kernel
theorem dX4_limit_25 : decode cX4_limit 25 = .ok (.iconst 0, 1) := by decide +kernel
theorem dX4_limit_26 : decode cX4_limit 26 = .ok (.putfield 62, 3) := by decide +kernel
theorem dX4_limit_29 : decode cX4_limit 29 = .ok (.iload_n 2, 1) := by decide +kernel
theorem dX4_limit_30 : decode cX4_limit 30 = .ok (.i2l, 1) := by decide +kernel
theorem dX4_limit_31 : decode cX4_limit 31 = .ok (.lreturn, 1) := by decide +kernel
set_option maxRecDepth 20000 in
theorem ggX4_tick_X3_goOn : GoodIn wsX4_tick wsX3_goOn := goodIn_r _ [16, 17, 38, 39, 40] (by decide +kernel) (by decide +kernel)
set_option maxRecDepth 20000 in
theorem gX4_tick_X3_goOn : GoodIn wsX4_tick (wsV RX4 110 RX3 yX3_goOn wsX3_goOn) := goodIn_app (goodIn_of _ (by decide +kernel)) ggX4_tick_X3_goOn
set_option maxRecDepth 20000 in
theorem ggX4_tick_X4_copy : GoodIn wsX4_tick wsX4_copy := goodIn_r _ [21] (by decide +kernel) (by decide +kernel)
set_option maxRecDepth 20000 in
theorem gX4_tick_X4_copy : GoodIn wsX4_tick (va_wsS RX4 118 yX4_copy wsX4_copy) := goodIn_app (goodIn_of _ (by decide +kernel)) ggX4_tick_X4_copy
set_option maxRecDepth 20000 in
theorem ggX4_tick_X3_seen : GoodIn wsX4_tick wsX3_seen := goodIn_r _ [25, 17, 38, 39, 40] (by decide +kernel) (by decide +kernel)
set_option maxRecDepth 20000 in
theorem gX4_tick_X3_seen : GoodIn wsX4_tick (wsV RX4 122 RX3 yX3_seen wsX3_seen) := goodIn_app (goodIn_of _ (by decide +kernel)) ggX4_tick_X3_seen
theorem dX4_tick_0 : decode cX4_tick 0 = .ok (.aload_n 0, 1) := by decide +kernel
theorem dX4_tick_1 : decode cX4_tick 1 = .ok (.getfield 19, 3) := by decide +kernel
theorem dX4_tick_4 : decode cX4_tick 4 = .ok (.getfield 94, 3) := by decide +kernel
theorem dX4_tick_7 : decode cX4_tick 7 = .ok (.ifCond .ne 7, 3) := by decide +kernel
theorem dX4_tick_10 : decode cX4_tick 10 = .ok (.ldc2_w 85, 3) := by decide +kernel
theorem dX4_tick_13 : decode cX4_tick 13 = .ok (.lreturn, 1) := by decide +kernel
theorem dX4_tick_14 : decode cX4_tick 14 = .ok (.iload_n 1, 1) := by decide +kernel
theorem dX4_tick_15 : decode cX4_tick 15 = .ok (.bipush (-100), 2) := by decide +kernel
theorem dX4_tick_17 : decode cX4_tick 17 = .ok (.if_icmp .lt 9, 3) := by decide +kernel
theorem dX4_tick_20 : decode cX4_tick 20 = .ok (.iload_n 1, 1) := by decide +kernel
theorem dX4_tick_21 : decode cX4_tick 21 = .ok (.bipush 100, 2) := by decide +kernel
theorem dX4_tick_23 : decode cX4_tick 23 = .ok (.if_icmp .le 7, 3) := by decide +kernel
theorem dX4_tick_26 : decode cX4_tick 26 = .ok (.ldc2_w 66, 3) := by decide +kernel
theorem dX4_tick_29 : decode cX4_tick 29 = .ok (.lreturn, 1) := by decide +kernel
theorem dX4_tick_30 : decode cX4_tick 30 = .ok (.aload_n 0, 1) := by decide +kernel
theorem dX4_tick_31 : decode cX4_tick 31 = .ok (.getfield 19, 3) := by decide +kernel
theorem dX4_tick_34 : decode cX4_tick 34 = .ok (.iconst 0, 1) := by decide +kernel
theorem dX4_tick_35 : decode cX4_tick 35 = .ok (.aload_n 0, 1) := by decide +kernel
theorem dX4_tick_36 : decode cX4_tick 36 = .ok (.getfield 42, 3) := by decide +kernel
theorem dX4_tick_39 : decode cX4_tick 39 = .ok (.aload_n 0, 1) := by decide +kernel
theorem dX4_tick_40 : decode cX4_tick 40 = .ok (.getfield 49, 3) := by decide +kernel
theorem dX4_tick_43 : decode cX4_tick 43 = .ok (.invokevirtual 110, 3) := by decide +kernel
theorem dX4_tick_46 : decode cX4_tick 46 = .ok (.iconst 0, 1) := by decide +kernel
theorem dX4_tick_47 : decode cX4_tick 47 = .ok (.istore_n 2, 1) := by decide +kernel
theorem dX4_tick_48 : decode cX4_tick 48 = .ok (.iload_n 2, 1) := by decide +kernel
theorem dX4_tick_49 : decode cX4_tick 49 = .ok (.iconst 3, 1) := by decide +kernel
theorem dX4_tick_50 : decode cX4_tick 50 = .ok (.if_icmp .ge 64, 3) := by decide +kernel
theorem dX4_tick_53 : decode cX4_tick 53 = .ok (.aload_n 0, 1) := by decide +kernel
theorem dX4_tick_54 : decode cX4_tick 54 = .ok (.getfield 49, 3) := by decide +kernel
theorem dX4_tick_57 : decode cX4_tick 57 = .ok (.iload_n 2, 1) := by decide +kernel
theorem dX4_tick_58 : decode cX4_tick 58 = .ok (.dup2, 1) := by decide +kernel
theorem dX4_tick_59 : decode cX4_tick 59 = .ok (.laload, 1) := by decide +kernel
theorem dX4_tick_60 : decode cX4_tick 60 = .ok (.aload_n 0, 1) := by decide +kernel
theorem dX4_tick_61 : decode cX4_tick 61 = .ok (.getfield 19, 3) := by decide +kernel
theorem dX4_tick_64 : decode cX4_tick 64 = .ok (.getfield 103, 3) := by decide +kernel
theorem dX4_tick_67 : decode cX4_tick 67 = .ok (.bipush 9, 2) := by decide +kernel
theorem dX4_tick_69 : decode cX4_tick 69 = .ok (.iload_n 2, 1) := by decide +kernel
theorem dX4_tick_70 : decode cX4_tick 70 = .ok (.iadd, 1) := by decide +kernel
theorem dX4_tick_71 : decode cX4_tick 71 = .ok (.iaload, 1) := by decide +kernel
theorem dX4_tick_72 : decode cX4_tick 72 = .ok (.i2l, 1) := by decide +kernel
theorem dX4_tick_73 : decode cX4_tick 73 = .ok (.iload_n 1, 1) := by decide +kernel
theorem dX4_tick_74 : decode cX4_tick 74 = .ok (.i2l, 1) := by decide +kernel
theorem dX4_tick_75 : decode cX4_tick 75 = .ok (.lmul, 1) := by decide +kernel
theorem dX4_tick_76 : decode cX4_tick 76 = .ok (.ladd, 1) := by decide +kernel
theorem dX4_tick_77 : decode cX4_tick 77 = .ok (.lastore, 1) := by decide +kernel
theorem dX4_tick_78 : decode cX4_tick 78 = .ok (.aload_n 0, 1) := by decide +kernel
theorem dX4_tick_79 : decode cX4_tick 79 = .ok (.getfield 49, 3) := by decide +kernel
theorem dX4_tick_82 : decode cX4_tick 82 = .ok (.iload_n 2, 1) := by decide +kernel
theorem dX4_tick_83 : decode cX4_tick 83 = .ok (.laload, 1) := by decide +kernel
theorem dX4_tick_84 : decode cX4_tick 84 = .ok (.ldc2_w 114, 3) := by decide +kernel
theorem dX4_tick_87 : decode cX4_tick 87 = .ok (.lcmp, 1) := by decide +kernel
theorem dX4_tick_88 : decode cX4_tick 88 = .ok (.ifCond .lt 16, 3) := by decide +kernel
theorem dX4_tick_91 : decode cX4_tick 91 = .ok (.aload_n 0, 1) := by decide +kernel
theorem dX4_tick_92 : decode cX4_tick 92 = .ok (.getfield 49, 3) := by decide +kernel
theorem dX4_tick_95 : decode cX4_tick 95 = .ok (.iload_n 2, 1) := by decide +kernel
theorem dX4_tick_96 : decode cX4_tick 96 = .ok (.laload, 1) := by decide +kernel
theorem dX4_tick_97 : decode cX4_tick 97 = .ok (.ldc2_w 116, 3) := by decide +kernel
theorem dX4_tick_100 : decode cX4_tick 100 = .ok (.lcmp, 1) := by decide +kernel
theorem dX4_tick_101 : decode cX4_tick 101 = .ok (.ifCond .le 7, 3) := by decide +kernel
theorem dX4_tick_104 : decode cX4_tick 104 = .ok (.ldc2_w 85, 3) := by decide +kernel
theorem dX4_tick_107 : decode cX4_tick 107 = .ok (.lreturn, 1) := by decide +kernel
theorem dX4_tick_108 : decode cX4_tick 108 = .ok (.iinc 2 1, 3) := by decide +kernel
theorem dX4_tick_111 : decode cX4_tick 111 = .ok (.goto (-63), 3) := by decide +kernel
theorem dX4_tick_114 : decode cX4_tick 114 = .ok (.aload_n 0, 1) := by decide +kernel
theorem dX4_tick_115 : decode cX4_tick 115 = .ok (.getfield 49, 3) := by decide +kernel
theorem dX4_tick_118 : decode cX4_tick 118 = .ok (.aload_n 0, 1) := by decide +kernel
theorem dX4_tick_119 : decode cX4_tick 119 = .ok (.getfield 42, 3) := by decide +kernel
theorem dX4_tick_122 : decode cX4_tick 122 = .ok (.invokestatic 118, 3) := by decide +kernel
theorem dX4_tick_125 : decode cX4_tick 125 = .ok (.aload_n 0, 1) := by decide +kernel
theorem dX4_tick_126 : decode cX4_tick 126 = .ok (.dup, 1) := by decide +kernel
theorem dX4_tick_127 : decode cX4_tick 127 = .ok (.getfield 59, 3) := by decide +kernel
theorem dX4_tick_130 : decode cX4_tick 130 = .ok (.iconst 1, 1) := by decide +kernel
theorem dX4_tick_131 : decode cX4_tick 131 = .ok (.iadd, 1) := by decide +kernel
theorem dX4_tick_132 : decode cX4_tick 132 = .ok (.putfield 59, 3) := by decide +kernel
theorem dX4_tick_135 : decode cX4_tick 135 = .ok (.aload_n 0, 1) := by decide +kernel
theorem dX4_tick_136 : decode cX4_tick 136 = .ok (.iconst 0, 1) := by decide +kernel
theorem dX4_tick_137 : decode cX4_tick 137 = .ok (.putfield 62, 3) := by decide +kernel
theorem dX4_tick_140 : decode cX4_tick 140 = .ok (.aload_n 0, 1) := by decide +kernel
theorem dX4_tick_141 : decode cX4_tick 141 = .ok (.getfield 19, 3) := by decide +kernel
theorem dX4_tick_144 : decode cX4_tick 144 = .ok (.aload_n 0, 1) := by decide +kernel
theorem dX4_tick_145 : decode cX4_tick 145 = .ok (.getfield 42, 3) := by decide +kernel
theorem dX4_tick_148 : decode cX4_tick 148 = .ok (.invokevirtual 122, 3) := by decide +kernel
theorem dX4_tick_151 : decode cX4_tick 151 = .ok (.lreturn, 1) := by decide +kernel
set_option maxRecDepth 20000 in
theorem ggX4_row_X3_hasPlace : GoodIn wsX4_row wsX3_hasPlace := goodIn_r _ [8, 9, 37, 38, 39] (by decide +kernel) (by decide +kernel)
set_option maxRecDepth 20000 in
theorem gX4_row_X3_hasPlace : GoodIn wsX4_row (wsV RX4 107 RX3 yX3_hasPlace wsX3_hasPlace) := goodIn_app (goodIn_of _ (by decide +kernel)) ggX4_row_X3_hasPlace
set_option maxRecDepth 20000 in
theorem ggX4_row_X4_chain : GoodIn wsX4_row wsX4_chain := goodIn_r _ [14, 15, 16, 17, 18, 19, 20, 21, 22, 23, 24, 25, 26, 27, 28] (by decide +kernel) (by decide +kernel)
set_option maxRecDepth 20000 in
theorem gX4_row_X4_chain : GoodIn wsX4_row (wsV RX4 126 RX4 yX4_chain wsX4_chain) := goodIn_app (goodIn_of _ (by decide +kernel)) ggX4_row_X4_chain
theorem dX4_row_0 : decode cX4_row 0 = .ok (.aload_n 0, 1) := by decide +kernel
theorem dX4_row_1 : decode cX4_row 1 = .ok (.getfield 19, 3) := by decide +kernel
theorem dX4_row_4 : decode cX4_row 4 = .ok (.iload_n 2, 1) := by decide +kernel
theorem dX4_row_5 : decode cX4_row 5 = .ok (.invokevirtual 107, 3) := by decide +kernel
theorem dX4_row_8 : decode cX4_row 8 = .ok (.ifCond .eq 14, 3) := by decide +kernel
theorem dX4_row_11 : decode cX4_row 11 = .ok (.aload_n 0, 1) := by decide +kernel
theorem dX4_row_12 : decode cX4_row 12 = .ok (.getfield 19, 3) := by decide +kernel
theorem dX4_row_15 : decode cX4_row 15 = .ok (.iload_n 3, 1) := by decide +kernel
theorem dX4_row_16 : decode cX4_row 16 = .ok (.invokevirtual 107, 3) := by decide +kernel
theorem dX4_row_19 : decode cX4_row 19 = .ok (.ifCond .ne 7, 3) := by decide +kernel
theorem dX4_row_22 : decode cX4_row 22 = .ok (.ldc2_w 101, 3) := by decide +kernel
theorem dX4_row_25 : decode cX4_row 25 = .ok (.lreturn, 1) := by decide +kernel
theorem dX4_row_26 : decode cX4_row 26 = .ok (.aload_n 0, 1) := by decide +kernel
