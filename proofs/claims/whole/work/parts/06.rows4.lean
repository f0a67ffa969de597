set_option maxRecDepth 20000 in
theorem gX4_goTheWay_X4_quotient : GoodIn wsX4_goTheWay (va_wsS RX4 166 yX4_quotient wsX4_quotient) := goodIn_app (goodIn_of _ (by decide +kernel)) ggX4_goTheWay_X4_quotient
theorem dX4_goTheWay_0 : decode cX4_goTheWay 0 = .ok (.aload_n 0, 1) := by decide +kernel
theorem dX4_goTheWay_1 : decode cX4_goTheWay 1 = .ok (.iload_n 1, 1) := by decide +kernel
theorem dX4_goTheWay_2 : decode cX4_goTheWay 2 = .ok (.invokevirtual 126, 3) := by decide +kernel
theorem dX4_goTheWay_5 : decode cX4_goTheWay 5 = .ok (.astore_n 3, 1) := by decide +kernel
theorem dX4_goTheWay_6 : decode cX4_goTheWay 6 = .ok (.iconst 0, 1) := by decide +kernel
theorem dX4_goTheWay_7 : decode cX4_goTheWay 7 = .ok (.istore 4, 2) := by decide +kernel
theorem dX4_goTheWay_9 : decode cX4_goTheWay 9 = .ok (.iload 4, 2) := by decide +kernel
theorem dX4_goTheWay_11 : decode cX4_goTheWay 11 = .ok (.iconst 3, 1) := by decide +kernel
theorem dX4_goTheWay_12 : decode cX4_goTheWay 12 = .ok (.if_icmp .ge 28, 3) := by decide +kernel
theorem dX4_goTheWay_15 : decode cX4_goTheWay 15 = .ok (.aload_n 0, 1) := by decide +kernel
theorem dX4_goTheWay_16 : decode cX4_goTheWay 16 = .ok (.getfield 46, 3) := by decide +kernel
theorem dX4_goTheWay_19 : decode cX4_goTheWay 19 = .ok (.iload 4, 2) := by decide +kernel
theorem dX4_goTheWay_21 : decode cX4_goTheWay 21 = .ok (.aload_n 0, 1) := by decide +kernel
theorem dX4_goTheWay_22 : decode cX4_goTheWay 22 = .ok (.getfield 42, 3) := by decide +kernel
theorem dX4_goTheWay_25 : decode cX4_goTheWay 25 = .ok (.iload 4, 2) := by decide +kernel
theorem dX4_goTheWay_27 : decode cX4_goTheWay 27 = .ok (.laload, 1) := by decide +kernel
theorem dX4_goTheWay_28 : decode cX4_goTheWay 28 = .ok (.aload_n 3, 1) := by decide +kernel
theorem dX4_goTheWay_29 : decode cX4_goTheWay 29 = .ok (.getfield 150, 3) := by decide +kernel
theorem dX4_goTheWay_32 : decode cX4_goTheWay 32 = .ok (.lmul, 1) := by decide +kernel
theorem dX4_goTheWay_33 : decode cX4_goTheWay 33 = .ok (.lastore, 1) := by decide +kernel
theorem dX4_goTheWay_34 : decode cX4_goTheWay 34 = .ok (.iinc 4 1, 3) := by decide +kernel
theorem dX4_goTheWay_37 : decode cX4_goTheWay 37 = .ok (.goto (-28), 3) := by decide +kernel
theorem dX4_goTheWay_40 : decode cX4_goTheWay 40 = .ok (.iconst 0, 1) := by decide +kernel
theorem dX4_goTheWay_41 : decode cX4_goTheWay 41 = .ok (.istore 4, 2) := by decide +kernel
theorem dX4_goTheWay_43 : decode cX4_goTheWay 43 = .ok (.iload 4, 2) := by decide +kernel
theorem dX4_goTheWay_45 : decode cX4_goTheWay 45 = .ok (.iload_n 2, 1) := by decide +kernel
theorem dX4_goTheWay_46 : decode cX4_goTheWay 46 = .ok (.if_icmp .ge 128, 3) := by decide +kernel
theorem dX4_goTheWay_49 : decode cX4_goTheWay 49 = .ok (.iload_n 1, 1) := by decide +kernel
theorem dX4_goTheWay_50 : decode cX4_goTheWay 50 = .ok (.ifCond .eq 17, 3) := by decide +kernel
theorem dX4_goTheWay_53 : decode cX4_goTheWay 53 = .ok (.aload_n 0, 1) := by decide +kernel
theorem dX4_goTheWay_54 : decode cX4_goTheWay 54 = .ok (.getfield 19, 3) := by decide +kernel
theorem dX4_goTheWay_57 : decode cX4_goTheWay 57 = .ok (.aload_n 0, 1) := by decide +kernel
theorem dX4_goTheWay_58 : decode cX4_goTheWay 58 = .ok (.getfield 46, 3) := by decide +kernel
theorem dX4_goTheWay_61 : decode cX4_goTheWay 61 = .ok (.invokevirtual 122, 3) := by decide +kernel
theorem dX4_goTheWay_64 : decode cX4_goTheWay 64 = .ok (.goto 14, 3) := by decide +kernel
theorem dX4_goTheWay_67 : decode cX4_goTheWay 67 = .ok (.aload_n 3, 1) := by decide +kernel
theorem dX4_goTheWay_68 : decode cX4_goTheWay 68 = .ok (.getfield 147, 3) := by decide +kernel
theorem dX4_goTheWay_71 : decode cX4_goTheWay 71 = .ok (.aload_n 0, 1) := by decide +kernel
theorem dX4_goTheWay_72 : decode cX4_goTheWay 72 = .ok (.getfield 46, 3) := by decide +kernel
theorem dX4_goTheWay_75 : decode cX4_goTheWay 75 = .ok (.invokestatic 162, 3) := by decide +kernel
theorem dX4_goTheWay_78 : decode cX4_goTheWay 78 = .ok (.lstore 5, 2) := by decide +kernel
theorem dX4_goTheWay_80 : decode cX4_goTheWay 80 = .ok (.aload_n 0, 1) := by decide +kernel
theorem dX4_goTheWay_81 : decode cX4_goTheWay 81 = .ok (.getfield 19, 3) := by decide +kernel
theorem dX4_goTheWay_84 : decode cX4_goTheWay 84 = .ok (.iconst 0, 1) := by decide +kernel
theorem dX4_goTheWay_85 : decode cX4_goTheWay 85 = .ok (.aload_n 0, 1) := by decide +kernel
theorem dX4_goTheWay_86 : decode cX4_goTheWay 86 = .ok (.getfield 46, 3) := by decide +kernel
theorem dX4_goTheWay_89 : decode cX4_goTheWay 89 = .ok (.aload_n 0, 1) := by decide +kernel
theorem dX4_goTheWay_90 : decode cX4_goTheWay 90 = .ok (.getfield 49, 3) := by decide +kernel
theorem dX4_goTheWay_93 : decode cX4_goTheWay 93 = .ok (.invokevirtual 110, 3) := by decide +kernel
theorem dX4_goTheWay_96 : decode cX4_goTheWay 96 = .ok (.iconst 0, 1) := by decide +kernel
theorem dX4_goTheWay_97 : decode cX4_goTheWay 97 = .ok (.istore 7, 2) := by decide +kernel
theorem dX4_goTheWay_99 : decode cX4_goTheWay 99 = .ok (.iload 7, 2) := by decide +kernel
theorem dX4_goTheWay_101 : decode cX4_goTheWay 101 = .ok (.iconst 3, 1) := by decide +kernel
theorem dX4_goTheWay_102 : decode cX4_goTheWay 102 = .ok (.if_icmp .ge 66, 3) := by decide +kernel
theorem dX4_goTheWay_105 : decode cX4_goTheWay 105 = .ok (.iload_n 1, 1) := by decide +kernel
theorem dX4_goTheWay_106 : decode cX4_goTheWay 106 = .ok (.ifCond .eq 13, 3) := by decide +kernel
theorem dX4_goTheWay_109 : decode cX4_goTheWay 109 = .ok (.aload_n 3, 1) := by decide +kernel
theorem dX4_goTheWay_110 : decode cX4_goTheWay 110 = .ok (.getfield 147, 3) := by decide +kernel
theorem dX4_goTheWay_113 : decode cX4_goTheWay 113 = .ok (.iload 7, 2) := by decide +kernel
theorem dX4_goTheWay_115 : decode cX4_goTheWay 115 = .ok (.laload, 1) := by decide +kernel
theorem dX4_goTheWay_116 : decode cX4_goTheWay 116 = .ok (.goto 17, 3) := by decide +kernel
theorem dX4_goTheWay_119 : decode cX4_goTheWay 119 = .ok (.aload_n 0, 1) := by decide +kernel
theorem dX4_goTheWay_120 : decode cX4_goTheWay 120 = .ok (.getfield 19, 3) := by decide +kernel
theorem dX4_goTheWay_123 : decode cX4_goTheWay 123 = .ok (.getfield 103, 3) := by decide +kernel
theorem dX4_goTheWay_126 : decode cX4_goTheWay 126 = .ok (.bipush 9, 2) := by decide +kernel
theorem dX4_goTheWay_128 : decode cX4_goTheWay 128 = .ok (.iload 7, 2) := by decide +kernel
theorem dX4_goTheWay_130 : decode cX4_goTheWay 130 = .ok (.iadd, 1) := by decide +kernel
theorem dX4_goTheWay_131 : decode cX4_goTheWay 131 = .ok (.iaload, 1) := by decide +kernel
theorem dX4_goTheWay_132 : decode cX4_goTheWay 132 = .ok (.i2l, 1) := by decide +kernel
theorem dX4_goTheWay_133 : decode cX4_goTheWay 133 = .ok (.lstore 8, 2) := by decide +kernel
theorem dX4_goTheWay_135 : decode cX4_goTheWay 135 = .ok (.aload_n 0, 1) := by decide +kernel
theorem dX4_goTheWay_136 : decode cX4_goTheWay 136 = .ok (.getfield 46, 3) := by decide +kernel
theorem dX4_goTheWay_139 : decode cX4_goTheWay 139 = .ok (.iload 7, 2) := by decide +kernel
theorem dX4_goTheWay_141 : decode cX4_goTheWay 141 = .ok (.aload_n 0, 1) := by decide +kernel
theorem dX4_goTheWay_142 : decode cX4_goTheWay 142 = .ok (.getfield 49, 3) := by decide +kernel
theorem dX4_goTheWay_145 : decode cX4_goTheWay 145 = .ok (.iload 7, 2) := by decide +kernel
theorem dX4_goTheWay_147 : decode cX4_goTheWay 147 = .ok (.laload, 1) := by decide +kernel
theorem dX4_goTheWay_148 : decode cX4_goTheWay 148 = .ok (.lload 8, 2) := by decide +kernel
theorem dX4_goTheWay_150 : decode cX4_goTheWay 150 = .ok (.lload 5, 2) := by decide +kernel
theorem dX4_goTheWay_152 : decode cX4_goTheWay 152 = .ok (.lmul, 1) := by decide +kernel
theorem dX4_goTheWay_153 : decode cX4_goTheWay 153 = .ok (.aload_n 3, 1) := by decide +kernel
theorem dX4_goTheWay_154 : decode cX4_goTheWay 154 = .ok (.getfield 150, 3) := by decide +kernel
theorem dX4_goTheWay_157 : decode cX4_goTheWay 157 = .ok (.invokestatic 166, 3) := by decide +kernel
theorem dX4_goTheWay_160 : decode cX4_goTheWay 160 = .ok (.lsub, 1) := by decide +kernel
theorem dX4_goTheWay_161 : decode cX4_goTheWay 161 = .ok (.lastore, 1) := by decide +kernel
theorem dX4_goTheWay_162 : decode cX4_goTheWay 162 = .ok (.iinc 7 1, 3) := by decide +kernel
theorem dX4_goTheWay_165 : decode cX4_goTheWay 165 = .ok (.goto (-66), 3) := by decide +kernel
theorem dX4_goTheWay_168 : decode cX4_goTheWay 168 = .ok (.iinc 4 1, 3) := by decide +kernel
theorem dX4_goTheWay_171 : decode cX4_goTheWay 171 = .ok (.goto (-128), 3) := by decide +kernel
theorem dX4_goTheWay_174 : decode cX4_goTheWay 174 = .ok (.return_, 1) := by decide +kernel
theorem dX4_isPart_0 : decode cX4_isPart 0 = .ok (.iload_n 0, 1) := by decide +kernel
theorem dX4_isPart_1 : decode cX4_isPart 1 = .ok (.ifCond .eq 8, 3) := by decide +kernel
theorem dX4_isPart_4 : decode cX4_isPart 4 = .ok (.iload_n 0, 1) := by decide +kernel
theorem dX4_isPart_5 : decode cX4_isPart 5 = .ok (.iconst 1, 1) := by decide +kernel
theorem dX4_isPart_6 : decode cX4_isPart 6 = .ok (.if_icmp .ne 7, 3) := by decide +kernel
theorem dX4_isPart_9 : decode cX4_isPart 9 = .ok (.iconst 1, 1) := by decide +kernel
theorem dX4_isPart_10 : decode cX4_isPart 10 = .ok (.goto 4, 3) := by decide +kernel
theorem dX4_isPart_13 : decode cX4_isPart 13 = .ok (.iconst 0, 1) := by decide +kernel
theorem dX4_isPart_14 : decode cX4_isPart 14 = .ok (.ireturn, 1) := by decide +kernel
theorem dX4_copy_0 : decode cX4_copy 0 = .ok (.iconst 0, 1) := by decide +kernel
theorem dX4_copy_1 : decode cX4_copy 1 = .ok (.istore_n 2, 1) := by decide +kernel
theorem dX4_copy_2 : decode cX4_copy 2 = .ok (.iload_n 2, 1) := by decide +kernel
theorem dX4_copy_3 : decode cX4_copy 3 = .ok (.iconst 3, 1) := by decide +kernel
theorem dX4_copy_4 : decode cX4_copy 4 = .ok (.if_icmp .ge 15, 3) := by decide +kernel
theorem dX4_copy_7 : decode cX4_copy 7 = .ok (.aload_n 1, 1) := by decide +kernel
theorem dX4_copy_8 : decode cX4_copy 8 = .ok (.iload_n 2, 1) := by decide +kernel
theorem dX4_copy_9 : decode cX4_copy 9 = .ok (.aload_n 0, 1) := by decide +kernel
theorem dX4_copy_10 : decode cX4_copy 10 = .ok (.iload_n 2, 1) := by decide +kernel
theorem dX4_copy_11 : decode cX4_copy 11 = .ok (.laload, 1) := by decide +kernel
theorem dX4_copy_12 : decode cX4_copy 12 = .ok (.lastore, 1) := by decide +kernel
theorem dX4_copy_13 : decode cX4_copy 13 = .ok (.iinc 2 1, 3) := by decide +kernel
theorem dX4_copy_16 : decode cX4_copy 16 = .ok (.goto (-14), 3) := by decide +kernel
theorem dX4_copy_19 : decode cX4_copy 19 = .ok (.return_, 1) := by decide +kernel
theorem dX4_dot_0 : decode cX4_dot 0 = .ok (.aload_n 0, 1) := by decide +kernel
theorem dX4_dot_1 : decode cX4_dot 1 = .ok (.iconst 0, 1) := by decide +kernel
theorem dX4_dot_2 : decode cX4_dot 2 = .ok (.laload, 1) := by decide +kernel
theorem dX4_dot_3 : decode cX4_dot 3 = .ok (.aload_n 1, 1) := by decide +kernel
theorem dX4_dot_4 : decode cX4_dot 4 = .ok (.iconst 0, 1) := by decide +kernel
theorem dX4_dot_5 : decode cX4_dot 5 = .ok (.laload, 1) := by decide +kernel
theorem dX4_dot_6 : decode cX4_dot 6 = .ok (.lmul, 1) := by decide +kernel
theorem dX4_dot_7 : decode cX4_dot 7 = .ok (.aload_n 0, 1) := by decide +kernel
theorem dX4_dot_8 : decode cX4_dot 8 = .ok (.iconst 1, 1) := by decide +kernel
theorem dX4_dot_9 : decode cX4_dot 9 = .ok (.laload, 1) := by decide +kernel
theorem dX4_dot_10 : decode cX4_dot 10 = .ok (.aload_n 1, 1) := by decide +kernel
theorem dX4_dot_11 : decode cX4_dot 11 = .ok (.iconst 1, 1) := by decide +kernel
theorem dX4_dot_12 : decode cX4_dot 12 = .ok (.laload, 1) := by decide +kernel
theorem dX4_dot_13 : decode cX4_dot 13 = .ok (.lmul, 1) := by decide +kernel
theorem dX4_dot_14 : decode cX4_dot 14 = .ok (.ladd, 1) := by decide +kernel
theorem dX4_dot_15 : decode cX4_dot 15 = .ok (.aload_n 0, 1) := by decide +kernel
theorem dX4_dot_16 : decode cX4_dot 16 = .ok (.iconst 2, 1) := by decide +kernel
theorem dX4_dot_17 : decode cX4_dot 17 = .ok (.laload, 1) := by decide +kernel
theorem dX4_dot_18 : decode cX4_dot 18 = .ok (.aload_n 1, 1) := by decide +kernel
theorem dX4_dot_19 : decode cX4_dot 19 = .ok (.iconst 2, 1) := by decide +kernel
theorem dX4_dot_20 : decode cX4_dot 20 = .ok (.laload, 1) := by decide +kernel
theorem dX4_dot_21 : decode cX4_dot 21 = .ok (.lmul, 1) := by decide +kernel
theorem dX4_dot_22 : decode cX4_dot 22 = .ok (.ladd, 1) := by decide +kernel
theorem dX4_dot_23 : decode cX4_dot 23 = .ok (.lreturn, 1) := by decide +kernel
theorem dX4_cross_0 : decode cX4_cross 0 = .ok (.aload_n 2, 1) := by decide +kernel
theorem dX4_cross_1 : decode cX4_cross 1 = .ok (.iconst 0, 1) := by decide +kernel
theorem dX4_cross_2 : decode cX4_cross 2 = .ok (.aload_n 0, 1) := by decide +kernel
theorem dX4_cross_3 : decode cX4_cross 3 = .ok (.iconst 1, 1) := by decide +kernel
theorem dX4_cross_4 : decode cX4_cross 4 = .ok (.laload, 1) := by decide +kernel
theorem dX4_cross_5 : decode cX4_cross 5 = .ok (.aload_n 1, 1) := by decide +kernel
theorem dX4_cross_6 : decode cX4_cross 6 = .ok (.iconst 2, 1) := by decide +kernel
theorem dX4_cross_7 : decode cX4_cross 7 = .ok (.laload, 1) := by decide +kernel
theorem dX4_cross_8 : decode cX4_cross 8 = .ok (.lmul, 1) := by decide +kernel
theorem dX4_cross_9 : decode cX4_cross 9 = .ok (.aload_n 0, 1) := by decide +kernel
theorem dX4_cross_10 : decode cX4_cross 10 = .ok (.iconst 2, 1) := by decide +kernel
theorem dX4_cross_11 : decode cX4_cross 11 = .ok (.laload, 1) := by decide +kernel
theorem dX4_cross_12 : decode cX4_cross 12 = .ok (.aload_n 1, 1) := by decide +kernel
theorem dX4_cross_13 : decode cX4_cross 13 = .ok (.iconst 1, 1) := by decide +kernel
theorem dX4_cross_14 : decode cX4_cross 14 = .ok (.laload, 1) := by decide +kernel
theorem dX4_cross_15 : decode cX4_cross 15 = .ok (.lmul, 1) := by decide +kernel
theorem dX4_cross_16 : decode cX4_cross 16 = .ok (.lsub, 1) := by decide +kernel
theorem dX4_cross_17 : decode cX4_cross 17 = .ok (.lastore, 1) := by decide +kernel
theorem dX4_cross_18 : decode cX4_cross 18 = .ok (.aload_n 2, 1) := by decide +kernel
theorem dX4_cross_19 : decode cX4_cross 19 = .ok (.iconst 1, 1) := by decide +kernel
theorem dX4_cross_20 : decode cX4_cross 20 = .ok (.aload_n 0, 1) := by decide +kernel
theorem dX4_cross_21 : decode cX4_cross 21 = .ok (.iconst 2, 1) := by decide +kernel
theorem dX4_cross_22 : decode cX4_cross 22 = .ok (.laload, 1) := by decide +kernel
theorem dX4_cross_23 : decode cX4_cross 23 = .ok (.aload_n 1, 1) := by decide +kernel
theorem dX4_cross_24 : decode cX4_cross 24 = .ok (.iconst 0, 1) := by decide +kernel
theorem dX4_cross_25 : decode cX4_cross 25 = .ok (.laload, 1) := by decide +kernel
theorem dX4_cross_26 : decode cX4_cross 26 = .ok (.lmul, 1) := by decide +kernel
theorem dX4_cross_27 : decode cX4_cross 27 = .ok (.aload_n 0, 1) := by decide +kernel
theorem dX4_cross_28 : decode cX4_cross 28 = .ok (.iconst 0, 1) := by decide +kernel
theorem dX4_cross_29 : decode cX4_cross 29 = .ok (.laload, 1) := by decide +kernel
theorem dX4_cross_30 : decode cX4_cross 30 = .ok (.aload_n 1, 1) := by decide +kernel
theorem dX4_cross_31 : decode cX4_cross 31 = .ok (.iconst 2, 1) := by decide +kernel
theorem dX4_cross_32 : decode cX4_cross 32 = .ok (.laload, 1) := by decide +kernel
theorem dX4_cross_33 : decode cX4_cross 33 = .ok (.lmul, 1) := by decide +kernel
theorem dX4_cross_34 : decode cX4_cross 34 = .ok (.lsub, 1) := by decide +kernel
theorem dX4_cross_35 : decode cX4_cross 35 = .ok (.lastore, 1) := by decide +kernel
theorem dX4_cross_36 : decode cX4_cross 36 = .ok (.aload_n 2, 1) := by decide +kernel
theorem dX4_cross_37 : decode cX4_cross 37 = .ok (.iconst 2, 1) := by decide +kernel
theorem dX4_cross_38 : decode cX4_cross 38 = .ok (.aload_n 0, 1) := by decide +kernel
theorem dX4_cross_39 : decode cX4_cross 39 = .ok (.iconst 0, 1) := by decide +kernel
theorem dX4_cross_40 : decode cX4_cross 40 = .ok (.laload, 1) := by decide +kernel
theorem dX4_cross_41 : decode cX4_cross 41 = .ok (.aload_n 1, 1) := by decide +kernel
theorem dX4_cross_42 : decode cX4_cross 42 = .ok (.iconst 1, 1) := by decide +kernel
theorem dX4_cross_43 : decode cX4_cross 43 = .ok (.laload, 1) := by decide +kernel
theorem dX4_cross_44 : decode cX4_cross 44 = .ok (.lmul, 1) := by decide +kernel
theorem dX4_cross_45 : decode cX4_cross 45 = .ok (.aload_n 0, 1) := by decide +kernel
theorem dX4_cross_46 : decode cX4_cross 46 = .ok (.iconst 1, 1) := by decide +kernel
theorem dX4_cross_47 : decode cX4_cross 47 = .ok (.laload, 1) := by decide +kernel
theorem dX4_cross_48 : decode cX4_cross 48 = .ok (.aload_n 1, 1) := by decide +kernel
theorem dX4_cross_49 : decode cX4_cross 49 = .ok (.iconst 0, 1) := by decide +kernel
theorem dX4_cross_50 : decode cX4_cross 50 = .ok (.laload, 1) := by decide +kernel
theorem dX4_cross_51 : decode cX4_cross 51 = .ok (.lmul, 1) := by decide +kernel
theorem dX4_cross_52 : decode cX4_cross 52 = .ok (.lsub, 1) := by decide +kernel
theorem dX4_cross_53 : decode cX4_cross 53 = .ok (.lastore, 1) := by decide +kernel
theorem dX4_cross_54 : decode cX4_cross 54 = .ok (.return_, 1) := by decide +kernel
theorem dX4_setUnit_0 : decode cX4_setUnit 0 = .ok (.iconst 0, 1) := by decide +kernel
theorem dX4_setUnit_1 : decode cX4_setUnit 1 = .ok (.istore_n 2, 1) := by decide +kernel
theorem dX4_setUnit_2 : decode cX4_setUnit 2 = .ok (.iload_n 2, 1) := by decide +kernel
theorem dX4_setUnit_3 : decode cX4_setUnit 3 = .ok (.iconst 3, 1) := by decide +kernel
theorem dX4_setUnit_4 : decode cX4_setUnit 4 = .ok (.if_icmp .ge 22, 3) := by decide +kernel
theorem dX4_setUnit_7 : decode cX4_setUnit 7 = .ok (.aload_n 0, 1) := by decide +kernel
theorem dX4_setUnit_8 : decode cX4_setUnit 8 = .ok (.iload_n 2, 1) := by decide +kernel
theorem dX4_setUnit_9 : decode cX4_setUnit 9 = .ok (.iload_n 2, 1) := by decide +kernel
theorem dX4_setUnit_10 : decode cX4_setUnit 10 = .ok (.iload_n 1, 1) := by decide +kernel
theorem dX4_setUnit_11 : decode cX4_setUnit 11 = .ok (.if_icmp .ne 7, 3) := by decide +kernel
theorem dX4_setUnit_14 : decode cX4_setUnit 14 = .ok (.lconst 1, 1) := by decide +kernel
theorem dX4_setUnit_15 : decode cX4_setUnit 15 = .ok (.goto 4, 3) := by decide +kernel
theorem dX4_setUnit_18 : decode cX4_setUnit 18 = .ok (.lconst 0, 1) := by decide +kernel
theorem dX4_setUnit_19 : decode cX4_setUnit 19 = .ok (.lastore, 1) := by decide +kernel
theorem dX4_setUnit_20 : decode cX4_setUnit 20 = .ok (.iinc 2 1, 3) := by decide +kernel
theorem dX4_setUnit_23 : decode cX4_setUnit 23 = .ok (.goto (-21), 3) := by decide +kernel
theorem dX4_setUnit_26 : decode cX4_setUnit 26 = .ok (.return_, 1) := by decide +kernel
theorem dX4_firstNotZero_0 : decode cX4_firstNotZero 0 = .ok (.iconst 0, 1) := by decide +kernel
theorem dX4_firstNotZero_1 : decode cX4_firstNotZero 1 = .ok (.istore_n 1, 1) := by decide +kernel
theorem dX4_firstNotZero_2 : decode cX4_firstNotZero 2 = .ok (.iload_n 1, 1) := by decide +kernel
theorem dX4_firstNotZero_3 : decode cX4_firstNotZero 3 = .ok (.iconst 3, 1) := by decide +kernel
theorem dX4_firstNotZero_4 : decode cX4_firstNotZero 4 = .ok (.if_icmp .ge 17, 3) := by decide +kernel
theorem dX4_firstNotZero_7 : decode cX4_firstNotZero 7 = .ok (.aload_n 0, 1) := by decide +kernel
theorem dX4_firstNotZero_8 : decode cX4_firstNotZero 8 = .ok (.iload_n 1, 1) := by decide +kernel
theorem dX4_firstNotZero_9 : decode cX4_firstNotZero 9 = .ok (.laload, 1) := by decide +kernel
theorem dX4_firstNotZero_10 : decode cX4_firstNotZero 10 = .ok (.lconst 0, 1) := by decide +kernel
theorem dX4_firstNotZero_11 : decode cX4_firstNotZero 11 = .ok (.lcmp, 1) := by decide +kernel
theorem dX4_firstNotZero_12 : decode cX4_firstNotZero 12 = .ok (.ifCond .ne 9, 3) := by decide +kernel
theorem dX4_firstNotZero_15 : decode cX4_firstNotZero 15 = .ok (.iinc 1 1, 3) := by decide +kernel
theorem dX4_firstNotZero_18 : decode cX4_firstNotZero 18 = .ok (.goto (-16), 3) := by decide +kernel
theorem dX4_firstNotZero_21 : decode cX4_firstNotZero 21 = .ok (.iload_n 1, 1) := by decide +kernel
theorem dX4_firstNotZero_22 : decode cX4_firstNotZero 22 = .ok (.ireturn, 1) := by decide +kernel
theorem dX4_quotient_0 : decode cX4_quotient 0 = .ok (.lload_n 2, 1) := by decide +kernel
theorem dX4_quotient_1 : decode cX4_quotient 1 = .ok (.lconst 0, 1) := by decide +kernel
theorem dX4_quotient_2 : decode cX4_quotient 2 = .ok (.lcmp, 1) := by decide +kernel
theorem dX4_quotient_3 : decode cX4_quotient 3 = .ok (.ifCond .ne 7, 3) := by decide +kernel
theorem dX4_quotient_6 : decode cX4_quotient 6 = .ok (.lconst 0, 1) := by decide +kernel
theorem dX4_quotient_7 : decode cX4_quotient 7 = .ok (.goto 6, 3) := by decide +kernel
theorem dX4_quotient_10 : decode cX4_quotient 10 = .ok (.lload_n 0, 1) := by decide +kernel
theorem dX4_quotient_11 : decode cX4_quotient 11 = .ok (.lload_n 2, 1) := by decide +kernel
theorem dX4_quotient_12 : decode cX4_quotient 12 = .ok (.ldiv, 1) := by decide +kernel
theorem dX4_quotient_13 : decode cX4_quotient 13 = .ok (.lreturn, 1) := by decide +kernel
set_option maxRecDepth 20000 in
theorem ggX4_fraction_X4_commonDivisor : GoodIn wsX4_fraction wsX4_commonDivisor := goodIn_r _ [8] (by decide +kernel) (by decide +kernel)
set_option maxRecDepth 20000 in
theorem gX4_fraction_X4_commonDivisor : GoodIn wsX4_fraction (va_wsS RX4 243 yX4_commonDivisor wsX4_commonDivisor) := goodIn_app (goodIn_of _ (by decide +kernel)) ggX4_fraction_X4_commonDivisor
set_option maxRecDepth 20000 in
theorem ggX4_fraction_X4_quotient : GoodIn wsX4_fraction wsX4_quotient := goodIn_r _ [11] (by decide +kernel) (by decide +kernel)
set_option maxRecDepth 20000 in
theorem gX4_fraction_X4_quotient : GoodIn wsX4_fraction (va_wsS RX4 166 yX4_quotient wsX4_quotient) := goodIn_app (goodIn_of _ (by decide +kernel)) ggX4_fraction_X4_quotient
theorem dX4_fraction_0 : decode cX4_fraction 0 = .ok (.lload_n 0, 1) := by decide +kernel
theorem dX4_fraction_1 : decode cX4_fraction 1 = .ok (.invokestatic 238, 3) := by decide +kernel
theorem dX4_fraction_4 : decode cX4_fraction 4 = .ok (.lload_n 2, 1) := by decide +kernel
theorem dX4_fraction_5 : decode cX4_fraction 5 = .ok (.invokestatic 238, 3) := by decide +kernel
theorem dX4_fraction_8 : decode cX4_fraction 8 = .ok (.invokestatic 243, 3) := by decide +kernel
theorem dX4_fraction_11 : decode cX4_fraction 11 = .ok (.lstore 5, 2) := by decide +kernel
theorem dX4_fraction_13 : decode cX4_fraction 13 = .ok (.lload_n 2, 1) := by decide +kernel
theorem dX4_fraction_14 : decode cX4_fraction 14 = .ok (.lconst 0, 1) := by decide +kernel
theorem dX4_fraction_15 : decode cX4_fraction 15 = .ok (.lcmp, 1) := by decide +kernel
theorem dX4_fraction_16 : decode cX4_fraction 16 = .ok (.ifCond .ge 9, 3) := by decide +kernel
theorem dX4_fraction_19 : decode cX4_fraction 19 = .ok (.lload 5, 2) := by decide +kernel
theorem dX4_fraction_21 : decode cX4_fraction 21 = .ok (.lneg, 1) := by decide +kernel
theorem dX4_fraction_22 : decode cX4_fraction 22 = .ok (.goto 5, 3) := by decide +kernel
theorem dX4_fraction_25 : decode cX4_fraction 25 = .ok (.lload 5, 2) := by decide +kernel
theorem dX4_fraction_27 : decode cX4_fraction 27 = .ok (.lstore 7, 2) := by decide +kernel
theorem dX4_fraction_29 : decode cX4_fraction 29 = .ok (.iload 4, 2) := by decide +kernel
theorem dX4_fraction_31 : decode cX4_fraction 31 = .ok (.ifCond .ne 7, 3) := by decide +kernel
theorem dX4_fraction_34 : decode cX4_fraction 34 = .ok (.lload_n 0, 1) := by decide +kernel
theorem dX4_fraction_35 : decode cX4_fraction 35 = .ok (.goto 4, 3) := by decide +kernel
theorem dX4_fraction_38 : decode cX4_fraction 38 = .ok (.lload_n 2, 1) := by decide +kernel
theorem dX4_fraction_39 : decode cX4_fraction 39 = .ok (.lload 7, 2) := by decide +kernel
theorem dX4_fraction_41 : decode cX4_fraction 41 = .ok (.invokestatic 166, 3) := by decide +kernel
theorem dX4_fraction_44 : decode cX4_fraction 44 = .ok (.lreturn, 1) := by decide +kernel
theorem dX4_commonDivisor_0 : decode cX4_commonDivisor 0 = .ok (.lload_n 0, 1) := by decide +kernel
theorem dX4_commonDivisor_1 : decode cX4_commonDivisor 1 = .ok (.lstore 4, 2) := by decide +kernel
theorem dX4_commonDivisor_3 : decode cX4_commonDivisor 3 = .ok (.lload_n 2, 1) := by decide +kernel
theorem dX4_commonDivisor_4 : decode cX4_commonDivisor 4 = .ok (.lstore 6, 2) := by decide +kernel
theorem dX4_commonDivisor_6 : decode cX4_commonDivisor 6 = .ok (.iconst 0, 1) := by decide +kernel
theorem dX4_commonDivisor_7 : decode cX4_commonDivisor 7 = .ok (.istore 8, 2) := by decide +kernel
theorem dX4_commonDivisor_9 : decode cX4_commonDivisor 9 = .ok (.iload 8, 2) := by decide +kernel
theorem dX4_commonDivisor_11 : decode cX4_commonDivisor 11 = .ok (.bipush 100, 2) := by decide +kernel
theorem dX4_commonDivisor_13 : decode cX4_commonDivisor 13 = .ok (.if_icmp .ge 31, 3) := by decide +kernel
theorem dX4_commonDivisor_16 : decode cX4_commonDivisor 16 = .ok (.lload 6, 2) := by decide +kernel
theorem dX4_commonDivisor_18 : decode cX4_commonDivisor 18 = .ok (.lconst 0, 1) := by decide +kernel
theorem dX4_commonDivisor_19 : decode cX4_commonDivisor 19 = .ok (.lcmp, 1) := by decide +kernel
theorem dX4_commonDivisor_20 : decode cX4_commonDivisor 20 = .ok (.ifCond .eq 24, 3) := by decide +kernel
theorem dX4_commonDivisor_23 : decode cX4_commonDivisor 23 = .ok (.lload 4, 2) := by decide +kernel
theorem dX4_commonDivisor_25 : decode cX4_commonDivisor 25 = .ok (.lload 6, 2) := by decide +kernel
theorem dX4_commonDivisor_27 : decode cX4_commonDivisor 27 = .ok (.lrem, 1) := by decide +kernel
theorem dX4_commonDivisor_28 : decode cX4_commonDivisor 28 = .ok (.lstore 9, 2) := by decide +kernel
theorem dX4_commonDivisor_30 : decode cX4_commonDivisor 30 = .ok (.lload 6, 2) := by decide +kernel
theorem dX4_commonDivisor_32 : decode cX4_commonDivisor 32 = .ok (.lstore 4, 2) := by decide +kernel
theorem dX4_commonDivisor_34 : decode cX4_commonDivisor 34 = .ok (.lload 9, 2) := by decide +kernel
theorem dX4_commonDivisor_36 : decode cX4_commonDivisor 36 = .ok (.lstore 6, 2) := by decide +kernel
theorem dX4_commonDivisor_38 : decode cX4_commonDivisor 38 = .ok (.iinc 8 1, 3) := by decide +kernel
theorem dX4_commonDivisor_41 : decode cX4_commonDivisor 41 = .ok (.goto (-32), 3) := by decide +kernel
theorem dX4_commonDivisor_44 : decode cX4_commonDivisor 44 = .ok (.lload 4, 2) := by decide +kernel
theorem dX4_commonDivisor_46 : decode cX4_commonDivisor 46 = .ok (.lreturn, 1) := by decide +kernel
theorem dX5_init_0 : decode cX5_init 0 = .ok (.aload_n 0, 1) := by decide +kernel
theorem dX5_init_1 : decode cX5_init 1 = .ok (.invokespecial 1, 3) := by decide +kernel
theorem dX5_init_4 : decode cX5_init 4 = .ok (.aload_n 0, 1) := by decide +kernel
theorem dX5_init_5 : decode cX5_init 5 = .ok (.bipush 46, 2) := by decide +kernel
theorem dX5_init_7 : decode cX5_init 7 = .ok (.newarray .int, 2) := by decide +kernel
theorem dX5_init_9 : decode cX5_init 9 = .ok (.putfield 7, 3) := by decide +kernel
theorem dX5_init_12 : decode cX5_init 12 = .ok (.aload_n 0, 1) := by decide +kernel
theorem dX5_init_13 : decode cX5_init 13 = .ok (.bipush 15, 2) := by decide +kernel
theorem dX5_init_15 : decode cX5_init 15 = .ok (.newarray .int, 2) := by decide +kernel
theorem dX5_init_17 : decode cX5_init 17 = .ok (.putfield 13, 3) := by decide +kernel
theorem dX5_init_20 : decode cX5_init 20 = .ok (.aload_n 0, 1) := by decide +kernel
theorem dX5_init_21 : decode cX5_init 21 = .ok (.iconst 3, 1) := by decide +kernel
theorem dX5_init_22 : decode cX5_init 22 = .ok (.newarray .long, 2) := by decide +kernel
theorem dX5_init_24 : decode cX5_init 24 = .ok (.putfield 16, 3) := by decide +kernel
theorem dX5_init_27 : decode cX5_init 27 = .ok (.aload_n 0, 1) := by decide +kernel
theorem dX5_init_28 : decode cX5_init 28 = .ok (.iconst 2, 1) := by decide +kernel
theorem dX5_init_29 : decode cX5_init 29 = .ok (.putfield 20, 3) := by decide +kernel
theorem dX5_init_32 : decode cX5_init 32 = .ok (.aload_n 0, 1) := by decide +kernel
theorem dX5_init_33 : decode cX5_init 33 = .ok (.bipush 15, 2) := by decide +kernel
theorem dX5_init_35 : decode cX5_init 35 = .ok (.newarray .int, 2) := by decide +kernel
theorem dX5_init_37 : decode cX5_init 37 = .ok (.putfield 24, 3) := by decide +kernel
theorem dX5_init_40 : decode cX5_init 40 = .ok (.aload_n 0, 1) := by decide +kernel
theorem dX5_init_41 : decode cX5_init 41 = .ok (.iconst 3, 1) := by decide +kernel
theorem dX5_init_42 : decode cX5_init 42 = .ok (.newarray .long, 2) := by decide +kernel
theorem dX5_init_44 : decode cX5_init 44 = .ok (.putfield 27, 3) := by decide +kernel
theorem dX5_init_47 : decode cX5_init 47 = .ok (.aload_n 0, 1) := by decide +kernel
theorem dX5_init_48 : decode cX5_init 48 = .ok (.iconst 3, 1) := by decide +kernel
theorem dX5_init_49 : decode cX5_init 49 = .ok (.newarray .long, 2) := by decide +kernel
theorem dX5_init_51 : decode cX5_init 51 = .ok (.putfield 30, 3) := by decide +kernel
theorem dX5_init_54 : decode cX5_init 54 = .ok (.aload_n 0, 1) := by decide +kernel
theorem dX5_init_55 : decode cX5_init 55 = .ok (.bipush 9, 2) := by decide +kernel
theorem dX5_init_57 : decode cX5_init 57 = .ok (.newarray .long, 2) := by decide +kernel
theorem dX5_init_59 : decode cX5_init 59 = .ok (.putfield 33, 3) := by decide +kernel
theorem dX5_init_62 : decode cX5_init 62 = .ok (.aload_n 0, 1) := by decide +kernel
theorem dX5_init_63 : decode cX5_init 63 = .ok (.bipush 15, 2) := by decide +kernel
theorem dX5_init_65 : decode cX5_init 65 = .ok (.newarray .long, 2) := by decide +kernel
theorem dX5_init_67 : decode cX5_init 67 = .ok (.putfield 36, 3) := by decide +kernel
theorem dX5_init_70 : decode cX5_init 70 = .ok (.aload_n 0, 1) := by decide +kernel
theorem dX5_init_71 : decode cX5_init 71 = .ok (.bipush 45, 2) := by decide +kernel
theorem dX5_init_73 : decode cX5_init 73 = .ok (.newarray .long, 2) := by decide +kernel
theorem dX5_init_75 : decode cX5_init 75 = .ok (.putfield 39, 3) := by decide +kernel
theorem dX5_init_78 : decode cX5_init 78 = .ok (.aload_n 0, 1) := by decide +kernel
theorem dX5_init_79 : decode cX5_init 79 = .ok (.iconst 3, 1) := by decide +kernel
theorem dX5_init_80 : decode cX5_init 80 = .ok (.newarray .long, 2) := by decide +kernel
theorem dX5_init_82 : decode cX5_init 82 = .ok (.putfield 42, 3) := by decide +kernel
theorem dX5_init_85 : decode cX5_init 85 = .ok (.aload_n 0, 1) := by decide +kernel
theorem dX5_init_86 : decode cX5_init 86 = .ok (.bipush 6, 2) := by decide +kernel
theorem dX5_init_88 : decode cX5_init 88 = .ok (.newarray .int, 2) := by decide +kernel
theorem dX5_init_90 : decode cX5_init 90 = .ok (.putfield 45, 3) := by decide +kernel
theorem dX5_init_93 : decode cX5_init 93 = .ok (.aload_n 0, 1) := by decide +kernel
theorem dX5_init_94 : decode cX5_init 94 = .ok (.bipush 6, 2) := by decide +kernel
theorem dX5_init_96 : decode cX5_init 96 = .ok (.newarray .int, 2) := by decide +kernel
theorem dX5_init_98 : decode cX5_init 98 = .ok (.putfield 48, 3) := by decide +kernel
theorem dX5_init_101 : decode cX5_init 101 = .ok (.aload_n 0, 1) := by decide +kernel
theorem dX5_init_102 : decode cX5_init 102 = .ok (.bipush 9, 2) := by decide +kernel
theorem dX5_init_104 : decode cX5_init 104 = .ok (.newarray .long, 2) := by decide +kernel
theorem dX5_init_106 : decode cX5_init 106 = .ok (.putfield 51, 3) := by decide +kernel
theorem dX5_init_109 : decode cX5_init 109 = .ok (.aload_n 0, 1) := by decide +kernel
theorem dX5_init_110 : decode cX5_init 110 = .ok (.iconst 3, 1) := by decide +kernel
theorem dX5_init_111 : decode cX5_init 111 = .ok (.newarray .long, 2) := by decide +kernel
theorem dX5_init_113 : decode cX5_init 113 = .ok (.putfield 54, 3) := by decide +kernel
theorem dX5_init_116 : decode cX5_init 116 = .ok (.return_, 1) := by decide +kernel
theorem dX5_within_0 : decode cX5_within 0 = .ok (.iload_n 0, 1) := by decide +kernel
theorem dX5_within_1 : decode cX5_within 1 = .ok (.iload_n 1, 1) := by decide +kernel
theorem dX5_within_2 : decode cX5_within 2 = .ok (.if_icmp .lt 12, 3) := by decide +kernel
theorem dX5_within_5 : decode cX5_within 5 = .ok (.iload_n 0, 1) := by decide +kernel
theorem dX5_within_6 : decode cX5_within 6 = .ok (.iload_n 2, 1) := by decide +kernel
theorem dX5_within_7 : decode cX5_within 7 = .ok (.if_icmp .gt 7, 3) := by decide +kernel
theorem dX5_within_10 : decode cX5_within 10 = .ok (.iconst 1, 1) := by decide +kernel
theorem dX5_within_11 : decode cX5_within 11 = .ok (.goto 4, 3) := by decide +kernel
theorem dX5_within_14 : decode cX5_within 14 = .ok (.iconst 0, 1) := by decide +kernel
theorem dX5_within_15 : decode cX5_within 15 = .ok (.ireturn, 1) := by decide +kernel
set_option maxRecDepth 20000 in
theorem ggX5_letter_X5_within : GoodIn wsX5_letter wsX5_within := goodIn_r _ [8] (by decide +kernel) (by decide +kernel)
set_option maxRecDepth 20000 in
theorem gX5_letter_X5_within : GoodIn wsX5_letter (va_wsS RX5 57 yX5_within wsX5_within) := goodIn_app (goodIn_of _ (by decide +kernel)) ggX5_letter_X5_within
theorem dX5_letter_0 : decode cX5_letter 0 = .ok (.iload_n 1, 1) := by decide +kernel
theorem dX5_letter_1 : decode cX5_letter 1 = .ok (.bipush 32, 2) := by decide +kernel
theorem dX5_letter_3 : decode cX5_letter 3 = .ok (.bipush 126, 2) := by decide +kernel
theorem dX5_letter_5 : decode cX5_letter 5 = .ok (.invokestatic 57, 3) := by decide +kernel
theorem dX5_letter_8 : decode cX5_letter 8 = .ok (.ifCond .ne 7, 3) := by decide +kernel
theorem dX5_letter_11 : decode cX5_letter 11 = .ok (.ldc2_w 61, 3) := by decide +kernel
theorem dX5_letter_14 : decode cX5_letter 14 = .ok (.lreturn, 1) := by decide +kernel
theorem dX5_letter_15 : decode cX5_letter 15 = .ok (.aload_n 0, 1) := by decide +kernel
theorem dX5_letter_16 : decode cX5_letter 16 = .ok (.getfield 63, 3) := by decide +kernel
theorem dX5_letter_19 : decode cX5_letter 19 = .ok (.bipush 46, 2) := by decide +kernel
theorem dX5_letter_21 : decode cX5_letter 21 = .ok (.if_icmp .ne 7, 3) := by decide +kernel
theorem dX5_letter_24 : decode cX5_letter 24 = .ok (.ldc2_w 66, 3) := by decide +kernel
theorem dX5_letter_27 : decode cX5_letter 27 = .ok (.lreturn, 1) := by decide +kernel
theorem dX5_letter_28 : decode cX5_letter 28 = .ok (.aload_n 0, 1) := by decide +kernel
theorem dX5_letter_29 : decode cX5_letter 29 = .ok (.getfield 7, 3) := by decide +kernel
theorem dX5_letter_32 : decode cX5_letter 32 = .ok (.aload_n 0, 1) := by decide +kernel
theorem dX5_letter_33 : decode cX5_letter 33 = .ok (.getfield 63, 3) := by decide +kernel
theorem dX5_letter_36 : decode cX5_letter 36 = .ok (.iload_n 1, 1) := by decide +kernel
theorem dX5_letter_37 : decode cX5_letter 37 = .ok (.iastore, 1) := by decide +kernel
theorem dX5_letter_38 : decode cX5_letter 38 = .ok (.aload_n 0, 1) := by decide +kernel
theorem dX5_letter_39 : decode cX5_letter 39 = .ok (.dup, 1) := by decide +kernel
theorem dX5_letter_40 : decode cX5_letter 40 = .ok (.getfield 63, 3) := by decide +kernel
theorem dX5_letter_43 : decode cX5_letter 43 = .ok (.iconst 1, 1) := by decide +kernel
theorem dX5_letter_44 : decode cX5_letter 44 = .ok (.iadd, 1) := by decide +kernel
theorem dX5_letter_45 : decode cX5_letter 45 = .ok (.putfield 63, 3) := by decide +kernel
theorem dX5_letter_48 : decode cX5_letter 48 = .ok (.aload_n 0, 1) := by decide +kernel
theorem dX5_letter_49 : decode cX5_letter 49 = .ok (.getfield 63, 3) := by decide +kernel
theorem dX5_letter_52 : decode cX5_letter 52 = .ok (.i2l, 1) := by decide +kernel
theorem dX5_letter_53 : decode cX5_letter 53 = .ok (.lreturn, 1) := by decide +kernel
theorem dX5_blank_0 : decode cX5_blank 0 = .ok (.aload_n 0, 1) := by decide +kernel
theorem dX5_blank_1 : decode cX5_blank 1 = .ok (.getfield 63, 3) := by decide +kernel
theorem dX5_blank_4 : decode cX5_blank 4 = .ok (.istore_n 1, 1) := by decide +kernel
theorem dX5_blank_5 : decode cX5_blank 5 = .ok (.aload_n 0, 1) := by decide +kernel
theorem dX5_blank_6 : decode cX5_blank 6 = .ok (.iconst 0, 1) := by decide +kernel
theorem dX5_blank_7 : decode cX5_blank 7 = .ok (.putfield 63, 3) := by decide +kernel
theorem dX5_blank_10 : decode cX5_blank 10 = .ok (.iload_n 1, 1) := by decide +kernel
theorem dX5_blank_11 : decode cX5_blank 11 = .ok (.i2l, 1) := by decide +kernel
theorem dX5_blank_12 : decode cX5_blank 12 = .ok (.lreturn, 1) := by decide +kernel
theorem dX5_due_0 : decode cX5_due 0 = .ok (.aload_n 0, 1) := by decide +kernel
theorem dX5_due_1 : decode cX5_due 1 = .ok (.getfield 68, 3) := by decide +kernel
theorem dX5_due_4 : decode cX5_due 4 = .ok (.ifCond .ne 7, 3) := by decide +kernel
theorem dX5_due_7 : decode cX5_due 7 = .ok (.iconst 0, 1) := by decide +kernel
theorem dX5_due_8 : decode cX5_due 8 = .ok (.goto 27, 3) := by decide +kernel
theorem dX5_due_11 : decode cX5_due 11 = .ok (.aload_n 0, 1) := by decide +kernel
theorem dX5_due_12 : decode cX5_due 12 = .ok (.getfield 68, 3) := by decide +kernel
theorem dX5_due_15 : decode cX5_due 15 = .ok (.iconst 1, 1) := by decide +kernel
theorem dX5_due_16 : decode cX5_due 16 = .ok (.if_icmp .ne 15, 3) := by decide +kernel
theorem dX5_due_19 : decode cX5_due 19 = .ok (.aload_n 0, 1) := by decide +kernel
theorem dX5_due_20 : decode cX5_due 20 = .ok (.getfield 71, 3) := by decide +kernel
theorem dX5_due_23 : decode cX5_due 23 = .ok (.aload_n 0, 1) := by decide +kernel
theorem dX5_due_24 : decode cX5_due 24 = .ok (.getfield 71, 3) := by decide +kernel
theorem dX5_due_27 : decode cX5_due 27 = .ok (.imul, 1) := by decide +kernel
theorem dX5_due_28 : decode cX5_due 28 = .ok (.goto 7, 3) := by decide +kernel
theorem dX5_due_31 : decode cX5_due 31 = .ok (.aload_n 0, 1) := by decide +kernel
theorem dX5_due_32 : decode cX5_due 32 = .ok (.getfield 71, 3) := by decide +kernel
theorem dX5_due_35 : decode cX5_due 35 = .ok (.ireturn, 1) := by decide +kernel
theorem dX5_putNumber_0 : decode cX5_putNumber 0 = .ok (.aload_n 0, 1) := by decide +kernel
theorem dX5_putNumber_1 : decode cX5_putNumber 1 = .ok (.getfield 68, 3) := by decide +kernel
theorem dX5_putNumber_4 : decode cX5_putNumber 4 = .ok (.iconst 1, 1) := by decide +kernel
theorem dX5_putNumber_5 : decode cX5_putNumber 5 = .ok (.if_icmp .ne 27, 3) := by decide +kernel
theorem dX5_putNumber_8 : decode cX5_putNumber 8 = .ok (.iconst 3, 1) := by decide +kernel
theorem dX5_putNumber_9 : decode cX5_putNumber 9 = .ok (.aload_n 0, 1) := by decide +kernel
theorem dX5_putNumber_10 : decode cX5_putNumber 10 = .ok (.getfield 74, 3) := by decide +kernel
theorem dX5_putNumber_13 : decode cX5_putNumber 13 = .ok (.aload_n 0, 1) := by decide +kernel
theorem dX5_putNumber_14 : decode cX5_putNumber 14 = .ok (.getfield 71, 3) := by decide +kernel
theorem dX5_putNumber_17 : decode cX5_putNumber 17 = .ok (.idiv, 1) := by decide +kernel
theorem dX5_putNumber_18 : decode cX5_putNumber 18 = .ok (.imul, 1) := by decide +kernel
theorem dX5_putNumber_19 : decode cX5_putNumber 19 = .ok (.aload_n 0, 1) := by decide +kernel
theorem dX5_putNumber_20 : decode cX5_putNumber 20 = .ok (.getfield 74, 3) := by decide +kernel
theorem dX5_putNumber_23 : decode cX5_putNumber 23 = .ok (.aload_n 0, 1) := by decide +kernel
theorem dX5_putNumber_24 : decode cX5_putNumber 24 = .ok (.getfield 71, 3) := by decide +kernel
theorem dX5_putNumber_27 : decode cX5_putNumber 27 = .ok (.irem, 1) := by decide +kernel
theorem dX5_putNumber_28 : decode cX5_putNumber 28 = .ok (.iadd, 1) := by decide +kernel
theorem dX5_putNumber_29 : decode cX5_putNumber 29 = .ok (.goto 19, 3) := by decide +kernel
theorem dX5_putNumber_32 : decode cX5_putNumber 32 = .ok (.bipush 9, 2) := by decide +kernel
theorem dX5_putNumber_34 : decode cX5_putNumber 34 = .ok (.iconst 3, 1) := by decide +kernel
theorem dX5_putNumber_35 : decode cX5_putNumber 35 = .ok (.aload_n 0, 1) := by decide +kernel
theorem dX5_putNumber_36 : decode cX5_putNumber 36 = .ok (.getfield 68, 3) := by decide +kernel
theorem dX5_putNumber_39 : decode cX5_putNumber 39 = .ok (.iconst 2, 1) := by decide +kernel
theorem dX5_putNumber_40 : decode cX5_putNumber 40 = .ok (.isub, 1) := by decide +kernel
theorem dX5_putNumber_41 : decode cX5_putNumber 41 = .ok (.imul, 1) := by decide +kernel
theorem dX5_putNumber_42 : decode cX5_putNumber 42 = .ok (.iadd, 1) := by decide +kernel
theorem dX5_putNumber_43 : decode cX5_putNumber 43 = .ok (.aload_n 0, 1) := by decide +kernel
theorem dX5_putNumber_44 : decode cX5_putNumber 44 = .ok (.getfield 74, 3) := by decide +kernel
theorem dX5_putNumber_47 : decode cX5_putNumber 47 = .ok (.iadd, 1) := by decide +kernel
theorem dX5_putNumber_48 : decode cX5_putNumber 48 = .ok (.istore_n 2, 1) := by decide +kernel
theorem dX5_putNumber_49 : decode cX5_putNumber 49 = .ok (.aload_n 0, 1) := by decide +kernel
theorem dX5_putNumber_50 : decode cX5_putNumber 50 = .ok (.getfield 24, 3) := by decide +kernel
theorem dX5_putNumber_53 : decode cX5_putNumber 53 = .ok (.iload_n 2, 1) := by decide +kernel
theorem dX5_putNumber_54 : decode cX5_putNumber 54 = .ok (.aload_n 0, 1) := by decide +kernel
theorem dX5_putNumber_55 : decode cX5_putNumber 55 = .ok (.getfield 77, 3) := by decide +kernel
theorem dX5_putNumber_58 : decode cX5_putNumber 58 = .ok (.ifCond .eq 8, 3) := by decide +kernel
theorem dX5_putNumber_61 : decode cX5_putNumber 61 = .ok (.iload_n 1, 1) := by decide +kernel
theorem dX5_putNumber_62 : decode cX5_putNumber 62 = .ok (.ineg, 1) := by decide +kernel
theorem dX5_putNumber_63 : decode cX5_putNumber 63 = .ok (.goto 4, 3) := by decide +kernel
theorem dX5_putNumber_66 : decode cX5_putNumber 66 = .ok (.iload_n 1, 1) := by decide +kernel
theorem dX5_putNumber_67 : decode cX5_putNumber 67 = .ok (.iastore, 1) := by decide +kernel
theorem dX5_putNumber_68 : decode cX5_putNumber 68 = .ok (.aload_n 0, 1) := by decide +kernel
theorem dX5_putNumber_69 : decode cX5_putNumber 69 = .ok (.dup, 1) := by decide +kernel
theorem dX5_putNumber_70 : decode cX5_putNumber 70 = .ok (.getfield 74, 3) := by decide +kernel
theorem dX5_putNumber_73 : decode cX5_putNumber 73 = .ok (.iconst 1, 1) := by decide +kernel
theorem dX5_putNumber_74 : decode cX5_putNumber 74 = .ok (.iadd, 1) := by decide +kernel
theorem dX5_putNumber_75 : decode cX5_putNumber 75 = .ok (.putfield 74, 3) := by decide +kernel
theorem dX5_putNumber_78 : decode cX5_putNumber 78 = .ok (.aload_n 0, 1) := by decide +kernel
theorem dX5_putNumber_79 : decode cX5_putNumber 79 = .ok (.iconst 1, 1) := by decide +kernel
theorem dX5_putNumber_80 : decode cX5_putNumber 80 = .ok (.putfield 81, 3) := by decide +kernel
theorem dX5_putNumber_83 : decode cX5_putNumber 83 = .ok (.aload_n 0, 1) := by decide +kernel
theorem dX5_putNumber_84 : decode cX5_putNumber 84 = .ok (.iconst 0, 1) := by decide +kernel
theorem dX5_putNumber_85 : decode cX5_putNumber 85 = .ok (.putfield 77, 3) := by decide +kernel
theorem dX5_putNumber_88 : decode cX5_putNumber 88 = .ok (.return_, 1) := by decide +kernel
set_option maxRecDepth 20000 in
theorem ggX5_takesSplit_X5_due : GoodIn wsX5_takesSplit wsX5_due := goodIn_r _ [8, 2, 9, 10, 11, 12, 13, 14, 15, 16, 17, 18, 19, 20, 21, 22, 23, 24, 25, 26, 27, 28, 29, 30, 31, 32, 33, 34, 35, 36] (by decide +kernel) (by decide +kernel)
set_option maxRecDepth 20000 in
theorem gX5_takesSplit_X5_due : GoodIn wsX5_takesSplit (wsV RX5 84 RX5 yX5_due wsX5_due) := goodIn_app (goodIn_of _ (by decide +kernel)) ggX5_takesSplit_X5_due
theorem dX5_takesSplit_0 : decode cX5_takesSplit 0 = .ok (.aload_n 0, 1) := by decide +kernel
theorem dX5_takesSplit_1 : decode cX5_takesSplit 1 = .ok (.getfield 74, 3) := by decide +kernel
theorem dX5_takesSplit_4 : decode cX5_takesSplit 4 = .ok (.aload_n 0, 1) := by decide +kernel
theorem dX5_takesSplit_5 : decode cX5_takesSplit 5 = .ok (.invokevirtual 84, 3) := by decide +kernel
theorem dX5_takesSplit_8 : decode cX5_takesSplit 8 = .ok (.if_icmp .ne 7, 3) := by decide +kernel
theorem dX5_takesSplit_11 : decode cX5_takesSplit 11 = .ok (.iconst 1, 1) := by decide +kernel
theorem dX5_takesSplit_12 : decode cX5_takesSplit 12 = .ok (.goto 4, 3) := by decide +kernel
theorem dX5_takesSplit_15 : decode cX5_takesSplit 15 = .ok (.iconst 0, 1) := by decide +kernel
theorem dX5_takesSplit_16 : decode cX5_takesSplit 16 = .ok (.istore_n 2, 1) := by decide +kernel
theorem dX5_takesSplit_17 : decode cX5_takesSplit 17 = .ok (.iload_n 2, 1) := by decide +kernel
theorem dX5_takesSplit_18 : decode cX5_takesSplit 18 = .ok (.ifCond .eq 25, 3) := by decide +kernel
theorem dX5_takesSplit_21 : decode cX5_takesSplit 21 = .ok (.iload_n 1, 1) := by decide +kernel
theorem dX5_takesSplit_22 : decode cX5_takesSplit 22 = .ok (.bipush 59, 2) := by decide +kernel
theorem dX5_takesSplit_24 : decode cX5_takesSplit 24 = .ok (.if_icmp .ne 15, 3) := by decide +kernel
theorem dX5_takesSplit_27 : decode cX5_takesSplit 27 = .ok (.aload_n 0, 1) := by decide +kernel
theorem dX5_takesSplit_28 : decode cX5_takesSplit 28 = .ok (.getfield 68, 3) := by decide +kernel
theorem dX5_takesSplit_31 : decode cX5_takesSplit 31 = .ok (.iconst 3, 1) := by decide +kernel
theorem dX5_takesSplit_32 : decode cX5_takesSplit 32 = .ok (.if_icmp .ge 7, 3) := by decide +kernel
theorem dX5_takesSplit_35 : decode cX5_takesSplit 35 = .ok (.iconst 1, 1) := by decide +kernel
theorem dX5_takesSplit_36 : decode cX5_takesSplit 36 = .ok (.goto 18, 3) := by decide +kernel
theorem dX5_takesSplit_39 : decode cX5_takesSplit 39 = .ok (.iconst 0, 1) := by decide +kernel
theorem dX5_takesSplit_40 : decode cX5_takesSplit 40 = .ok (.goto 14, 3) := by decide +kernel
theorem dX5_takesSplit_43 : decode cX5_takesSplit 43 = .ok (.iload_n 1, 1) := by decide +kernel
theorem dX5_takesSplit_44 : decode cX5_takesSplit 44 = .ok (.bipush 44, 2) := by decide +kernel
theorem dX5_takesSplit_46 : decode cX5_takesSplit 46 = .ok (.if_icmp .ne 7, 3) := by decide +kernel
theorem dX5_takesSplit_49 : decode cX5_takesSplit 49 = .ok (.iconst 1, 1) := by decide +kernel
theorem dX5_takesSplit_50 : decode cX5_takesSplit 50 = .ok (.goto 4, 3) := by decide +kernel
theorem dX5_takesSplit_53 : decode cX5_takesSplit 53 = .ok (.iconst 0, 1) := by decide +kernel
theorem dX5_takesSplit_54 : decode cX5_takesSplit 54 = .ok (.istore_n 3, 1) := by decide +kernel
theorem dX5_takesSplit_55 : decode cX5_takesSplit 55 = .ok (.iload_n 3, 1) := by decide +kernel
theorem dX5_takesSplit_56 : decode cX5_takesSplit 56 = .ok (.ifCond .eq 42, 3) := by decide +kernel
theorem dX5_takesSplit_59 : decode cX5_takesSplit 59 = .ok (.aload_n 0, 1) := by decide +kernel
theorem dX5_takesSplit_60 : decode cX5_takesSplit 60 = .ok (.dup, 1) := by decide +kernel
theorem dX5_takesSplit_61 : decode cX5_takesSplit 61 = .ok (.getfield 68, 3) := by decide +kernel
theorem dX5_takesSplit_64 : decode cX5_takesSplit 64 = .ok (.iload_n 2, 1) := by decide +kernel
theorem dX5_takesSplit_65 : decode cX5_takesSplit 65 = .ok (.ifCond .eq 7, 3) := by decide +kernel
theorem dX5_takesSplit_68 : decode cX5_takesSplit 68 = .ok (.iconst 1, 1) := by decide +kernel
theorem dX5_takesSplit_69 : decode cX5_takesSplit 69 = .ok (.goto 4, 3) := by decide +kernel
theorem dX5_takesSplit_72 : decode cX5_takesSplit 72 = .ok (.iconst 0, 1) := by decide +kernel
theorem dX5_takesSplit_73 : decode cX5_takesSplit 73 = .ok (.iadd, 1) := by decide +kernel
theorem dX5_takesSplit_74 : decode cX5_takesSplit 74 = .ok (.putfield 68, 3) := by decide +kernel
theorem dX5_takesSplit_77 : decode cX5_takesSplit 77 = .ok (.aload_n 0, 1) := by decide +kernel
theorem dX5_takesSplit_78 : decode cX5_takesSplit 78 = .ok (.iload_n 2, 1) := by decide +kernel
theorem dX5_takesSplit_79 : decode cX5_takesSplit 79 = .ok (.ifCond .eq 7, 3) := by decide +kernel
theorem dX5_takesSplit_82 : decode cX5_takesSplit 82 = .ok (.iconst 0, 1) := by decide +kernel
theorem dX5_takesSplit_83 : decode cX5_takesSplit 83 = .ok (.goto 7, 3) := by decide +kernel
theorem dX5_takesSplit_86 : decode cX5_takesSplit 86 = .ok (.aload_n 0, 1) := by decide +kernel
theorem dX5_takesSplit_87 : decode cX5_takesSplit 87 = .ok (.getfield 74, 3) := by decide +kernel
theorem dX5_takesSplit_90 : decode cX5_takesSplit 90 = .ok (.putfield 74, 3) := by decide +kernel
theorem dX5_takesSplit_93 : decode cX5_takesSplit 93 = .ok (.aload_n 0, 1) := by decide +kernel
theorem dX5_takesSplit_94 : decode cX5_takesSplit 94 = .ok (.iconst 0, 1) := by decide +kernel
theorem dX5_takesSplit_95 : decode cX5_takesSplit 95 = .ok (.putfield 81, 3) := by decide +kernel
theorem dX5_takesSplit_98 : decode cX5_takesSplit 98 = .ok (.iload_n 3, 1) := by decide +kernel
theorem dX5_takesSplit_99 : decode cX5_takesSplit 99 = .ok (.ireturn, 1) := by decide +kernel
set_option maxRecDepth 20000 in
theorem ggX5_takes_X5_within : GoodIn wsX5_takes wsX5_within := goodIn_r _ [7] (by decide +kernel) (by decide +kernel)
set_option maxRecDepth 20000 in
theorem gX5_takes_X5_within : GoodIn wsX5_takes (va_wsS RX5 57 yX5_within wsX5_within) := goodIn_app (goodIn_of _ (by decide +kernel)) ggX5_takes_X5_within
set_option maxRecDepth 20000 in
theorem ggX5_takes_X5_takesSplit : GoodIn wsX5_takes wsX5_takesSplit := goodIn_r _ [11, 12, 13, 2, 14, 15, 16, 6, 17, 1, 23, 24, 25, 26, 27, 28, 29, 30, 31, 32, 33, 34, 35, 36, 37, 38, 39, 40, 41, 42, 43, 44, 45, 46, 47, 48, 49] (by decide +kernel) (by decide +kernel)
set_option maxRecDepth 20000 in
theorem gX5_takes_X5_takesSplit : GoodIn wsX5_takes (wsV RX5 88 RX5 yX5_takesSplit wsX5_takesSplit) := goodIn_app (goodIn_of _ (by decide +kernel)) ggX5_takes_X5_takesSplit
set_option maxRecDepth 20000 in
theorem ggX5_takes_X5_putNumber : GoodIn wsX5_takes wsX5_putNumber := goodIn_r _ [21, 13, 12, 1, 22, 3, 2, 23, 24, 25, 26, 27, 28, 29, 30, 31, 32, 33, 34, 35, 36, 37, 38, 39, 40, 41, 42, 43, 44, 45, 46, 47, 48, 49] (by decide +kernel) (by decide +kernel)
set_option maxRecDepth 20000 in
theorem gX5_takes_X5_putNumber : GoodIn wsX5_takes (wsV RX5 92 RX5 yX5_putNumber wsX5_putNumber) := goodIn_app (goodIn_of _ (by decide +kernel)) ggX5_takes_X5_putNumber
theorem dX5_takes_0 : decode cX5_takes 0 = .ok (.aload_n 0, 1) := by decide +kernel
theorem dX5_takes_1 : decode cX5_takes 1 = .ok (.getfield 71, 3) := by decide +kernel
theorem dX5_takes_4 : decode cX5_takes 4 = .ok (.ifCond .ne 47, 3) := by decide +kernel
theorem dX5_takes_7 : decode cX5_takes 7 = .ok (.aload_n 0, 1) := by decide +kernel
theorem dX5_takes_8 : decode cX5_takes 8 = .ok (.iload_n 1, 1) := by decide +kernel
theorem dX5_takes_9 : decode cX5_takes 9 = .ok (.bipush 49, 2) := by decide +kernel
theorem dX5_takes_11 : decode cX5_takes 11 = .ok (.bipush 51, 2) := by decide +kernel
theorem dX5_takes_13 : decode cX5_takes 13 = .ok (.invokestatic 57, 3) := by decide +kernel
theorem dX5_takes_16 : decode cX5_takes 16 = .ok (.ifCond .eq 10, 3) := by decide +kernel
theorem dX5_takes_19 : decode cX5_takes 19 = .ok (.iload_n 1, 1) := by decide +kernel
theorem dX5_takes_20 : decode cX5_takes 20 = .ok (.bipush 48, 2) := by decide +kernel
theorem dX5_takes_22 : decode cX5_takes 22 = .ok (.isub, 1) := by decide +kernel
theorem dX5_takes_23 : decode cX5_takes 23 = .ok (.goto 4, 3) := by decide +kernel
theorem dX5_takes_26 : decode cX5_takes 26 = .ok (.iconst 0, 1) := by decide +kernel
theorem dX5_takes_27 : decode cX5_takes 27 = .ok (.putfield 71, 3) := by decide +kernel
theorem dX5_takes_30 : decode cX5_takes 30 = .ok (.aload_n 0, 1) := by decide +kernel
theorem dX5_takes_31 : decode cX5_takes 31 = .ok (.aload_n 0, 1) := by decide +kernel
theorem dX5_takes_32 : decode cX5_takes 32 = .ok (.getfield 71, 3) := by decide +kernel
theorem dX5_takes_35 : decode cX5_takes 35 = .ok (.ifCond .le 7, 3) := by decide +kernel
theorem dX5_takes_38 : decode cX5_takes 38 = .ok (.iconst 1, 1) := by decide +kernel
theorem dX5_takes_39 : decode cX5_takes 39 = .ok (.goto 4, 3) := by decide +kernel
theorem dX5_takes_42 : decode cX5_takes 42 = .ok (.iconst 0, 1) := by decide +kernel
theorem dX5_takes_43 : decode cX5_takes 43 = .ok (.putfield 81, 3) := by decide +kernel
theorem dX5_takes_46 : decode cX5_takes 46 = .ok (.aload_n 0, 1) := by decide +kernel
theorem dX5_takes_47 : decode cX5_takes 47 = .ok (.getfield 81, 3) := by decide +kernel
theorem dX5_takes_50 : decode cX5_takes 50 = .ok (.ireturn, 1) := by decide +kernel
theorem dX5_takes_51 : decode cX5_takes 51 = .ok (.aload_n 0, 1) := by decide +kernel
theorem dX5_takes_52 : decode cX5_takes 52 = .ok (.getfield 81, 3) := by decide +kernel
theorem dX5_takes_55 : decode cX5_takes 55 = .ok (.ifCond .eq 9, 3) := by decide +kernel
theorem dX5_takes_58 : decode cX5_takes 58 = .ok (.aload_n 0, 1) := by decide +kernel
theorem dX5_takes_59 : decode cX5_takes 59 = .ok (.iload_n 1, 1) := by decide +kernel
theorem dX5_takes_60 : decode cX5_takes 60 = .ok (.invokevirtual 88, 3) := by decide +kernel
theorem dX5_takes_63 : decode cX5_takes 63 = .ok (.ireturn, 1) := by decide +kernel
theorem dX5_takes_64 : decode cX5_takes 64 = .ok (.iload_n 1, 1) := by decide +kernel
theorem dX5_takes_65 : decode cX5_takes 65 = .ok (.bipush 45, 2) := by decide +kernel
theorem dX5_takes_67 : decode cX5_takes 67 = .ok (.if_icmp .ne 17, 3) := by decide +kernel
theorem dX5_takes_70 : decode cX5_takes 70 = .ok (.aload_n 0, 1) := by decide +kernel
theorem dX5_takes_71 : decode cX5_takes 71 = .ok (.getfield 77, 3) := by decide +kernel
theorem dX5_takes_74 : decode cX5_takes 74 = .ok (.ifCond .ne 10, 3) := by decide +kernel
theorem dX5_takes_77 : decode cX5_takes 77 = .ok (.aload_n 0, 1) := by decide +kernel
theorem dX5_takes_78 : decode cX5_takes 78 = .ok (.iconst 1, 1) := by decide +kernel
theorem dX5_takes_79 : decode cX5_takes 79 = .ok (.putfield 77, 3) := by decide +kernel
theorem dX5_takes_82 : decode cX5_takes 82 = .ok (.iconst 1, 1) := by decide +kernel
theorem dX5_takes_83 : decode cX5_takes 83 = .ok (.ireturn, 1) := by decide +kernel
theorem dX5_takes_84 : decode cX5_takes 84 = .ok (.iload_n 1, 1) := by decide +kernel
theorem dX5_takes_85 : decode cX5_takes 85 = .ok (.aload_n 0, 1) := by decide +kernel
theorem dX5_takes_86 : decode cX5_takes 86 = .ok (.getfield 77, 3) := by decide +kernel
theorem dX5_takes_89 : decode cX5_takes 89 = .ok (.ifCond .eq 8, 3) := by decide +kernel
theorem dX5_takes_92 : decode cX5_takes 92 = .ok (.bipush 49, 2) := by decide +kernel
theorem dX5_takes_94 : decode cX5_takes 94 = .ok (.goto 5, 3) := by decide +kernel
theorem dX5_takes_97 : decode cX5_takes 97 = .ok (.bipush 48, 2) := by decide +kernel
theorem dX5_takes_99 : decode cX5_takes 99 = .ok (.bipush 50, 2) := by decide +kernel
theorem dX5_takes_101 : decode cX5_takes 101 = .ok (.invokestatic 57, 3) := by decide +kernel
theorem dX5_takes_104 : decode cX5_takes 104 = .ok (.istore_n 2, 1) := by decide +kernel
theorem dX5_takes_105 : decode cX5_takes 105 = .ok (.iload_n 2, 1) := by decide +kernel
theorem dX5_takes_106 : decode cX5_takes 106 = .ok (.ifCond .eq 11, 3) := by decide +kernel
theorem dX5_takes_109 : decode cX5_takes 109 = .ok (.aload_n 0, 1) := by decide +kernel
theorem dX5_takes_110 : decode cX5_takes 110 = .ok (.iload_n 1, 1) := by decide +kernel
theorem dX5_takes_111 : decode cX5_takes 111 = .ok (.bipush 48, 2) := by decide +kernel
theorem dX5_takes_113 : decode cX5_takes 113 = .ok (.isub, 1) := by decide +kernel
theorem dX5_takes_114 : decode cX5_takes 114 = .ok (.invokevirtual 92, 3) := by decide +kernel
theorem dX5_takes_117 : decode cX5_takes 117 = .ok (.iload_n 2, 1) := by decide +kernel
theorem dX5_takes_118 : decode cX5_takes 118 = .ok (.ireturn, 1) := by decide +kernel
set_option maxRecDepth 20000 in
theorem ggX5_goAlong_X5_takes : GoodIn wsX5_goAlong wsX5_takes := goodIn_r _ [12, 1, 4, 5, 13, 14, 11, 15, 16, 17, 18, 19, 3, 2, 20, 21, 22, 23, 24, 25, 26, 27, 28, 29, 30, 31, 32, 33, 34, 35, 36, 37, 38, 39, 40, 41, 42, 43, 44, 45, 46, 47, 48, 49, 50, 51, 52, 53, 54, 55] (by decide +kernel) (by decide +kernel)
set_option maxRecDepth 20000 in
theorem gX5_goAlong_X5_takes : GoodIn wsX5_goAlong (wsV RX5 96 RX5 yX5_takes wsX5_takes) := goodIn_app (goodIn_of _ (by decide +kernel)) ggX5_goAlong_X5_takes
theorem dX5_goAlong_0 : decode cX5_goAlong 0 = .ok (.aload_n 0, 1) := by decide +kernel
theorem dX5_goAlong_1 : decode cX5_goAlong 1 = .ok (.iconst 0, 1) := by decide +kernel
theorem dX5_goAlong_2 : decode cX5_goAlong 2 = .ok (.putfield 71, 3) := by decide +kernel
theorem dX5_goAlong_5 : decode cX5_goAlong 5 = .ok (.aload_n 0, 1) := by decide +kernel
theorem dX5_goAlong_6 : decode cX5_goAlong 6 = .ok (.iconst 0, 1) := by decide +kernel
theorem dX5_goAlong_7 : decode cX5_goAlong 7 = .ok (.putfield 68, 3) := by decide +kernel
theorem dX5_goAlong_10 : decode cX5_goAlong 10 = .ok (.aload_n 0, 1) := by decide +kernel
theorem dX5_goAlong_11 : decode cX5_goAlong 11 = .ok (.iconst 0, 1) := by decide +kernel
theorem dX5_goAlong_12 : decode cX5_goAlong 12 = .ok (.putfield 74, 3) := by decide +kernel
theorem dX5_goAlong_15 : decode cX5_goAlong 15 = .ok (.aload_n 0, 1) := by decide +kernel
theorem dX5_goAlong_16 : decode cX5_goAlong 16 = .ok (.iconst 0, 1) := by decide +kernel
theorem dX5_goAlong_17 : decode cX5_goAlong 17 = .ok (.putfield 81, 3) := by decide +kernel
theorem dX5_goAlong_20 : decode cX5_goAlong 20 = .ok (.aload_n 0, 1) := by decide +kernel
theorem dX5_goAlong_21 : decode cX5_goAlong 21 = .ok (.iconst 0, 1) := by decide +kernel
theorem dX5_goAlong_22 : decode cX5_goAlong 22 = .ok (.putfield 77, 3) := by decide +kernel
theorem dX5_goAlong_25 : decode cX5_goAlong 25 = .ok (.iconst 0, 1) := by decide +kernel
theorem dX5_goAlong_26 : decode cX5_goAlong 26 = .ok (.istore_n 1, 1) := by decide +kernel
theorem dX5_goAlong_27 : decode cX5_goAlong 27 = .ok (.iload_n 1, 1) := by decide +kernel
theorem dX5_goAlong_28 : decode cX5_goAlong 28 = .ok (.aload_n 0, 1) := by decide +kernel
theorem dX5_goAlong_29 : decode cX5_goAlong 29 = .ok (.getfield 63, 3) := by decide +kernel
theorem dX5_goAlong_32 : decode cX5_goAlong 32 = .ok (.if_icmp .ge 22, 3) := by decide +kernel
theorem dX5_goAlong_35 : decode cX5_goAlong 35 = .ok (.aload_n 0, 1) := by decide +kernel
theorem dX5_goAlong_36 : decode cX5_goAlong 36 = .ok (.aload_n 0, 1) := by decide +kernel
theorem dX5_goAlong_37 : decode cX5_goAlong 37 = .ok (.getfield 7, 3) := by decide +kernel
theorem dX5_goAlong_40 : decode cX5_goAlong 40 = .ok (.iload_n 1, 1) := by decide +kernel
theorem dX5_goAlong_41 : decode cX5_goAlong 41 = .ok (.iaload, 1) := by decide +kernel
theorem dX5_goAlong_42 : decode cX5_goAlong 42 = .ok (.invokevirtual 96, 3) := by decide +kernel
theorem dX5_goAlong_45 : decode cX5_goAlong 45 = .ok (.ifCond .eq 9, 3) := by decide +kernel
theorem dX5_goAlong_48 : decode cX5_goAlong 48 = .ok (.iinc 1 1, 3) := by decide +kernel
theorem dX5_goAlong_51 : decode cX5_goAlong 51 = .ok (.goto (-24), 3) := by decide +kernel
theorem dX5_goAlong_54 : decode cX5_goAlong 54 = .ok (.iload_n 1, 1) := by decide +kernel
theorem dX5_goAlong_55 : decode cX5_goAlong 55 = .ok (.ireturn, 1) := by decide +kernel
set_option maxRecDepth 20000 in
theorem ggX5_fault_X5_goAlong : GoodIn wsX5_fault wsX5_goAlong := goodIn_r _ [5, 6, 7, 8, 9, 10, 11, 12, 13, 14, 15, 4, 16, 17, 18, 19, 20, 21, 22, 23, 24, 25, 26, 27, 28, 29, 30, 31, 32, 33, 34, 35, 36, 37, 38, 39, 40, 41, 42, 43, 44, 45, 46, 47, 48, 49, 50, 51, 52, 53, 54, 55, 56, 57, 58, 59] (by decide +kernel) (by decide +kernel)
set_option maxRecDepth 20000 in
theorem gX5_fault_X5_goAlong : GoodIn wsX5_fault (wsV RX5 99 RX5 yX5_goAlong wsX5_goAlong) := goodIn_app (goodIn_of _ (by decide +kernel)) ggX5_fault_X5_goAlong
theorem dX5_fault_0 : decode cX5_fault 0 = .ok (.aload_n 0, 1) := by decide +kernel
theorem dX5_fault_1 : decode cX5_fault 1 = .ok (.invokevirtual 99, 3) := by decide +kernel
theorem dX5_fault_4 : decode cX5_fault 4 = .ok (.i2l, 1) := by decide +kernel
theorem dX5_fault_5 : decode cX5_fault 5 = .ok (.lreturn, 1) := by decide +kernel
set_option maxRecDepth 20000 in
theorem ggX5_plant_X5_goAlong : GoodIn wsX5_plant wsX5_goAlong := goodIn_r _ [16, 4, 2, 3, 5, 17, 1, 18, 19, 20, 21, 15, 22, 23, 24, 25, 26, 27, 28, 29, 30, 31, 32, 33, 34, 35, 36, 37, 9, 46, 47, 48, 49, 50, 51, 52, 53, 54, 55, 56, 57, 58, 59, 60, 61, 62, 63, 64, 65, 66, 67, 68, 69, 70, 71, 72] (by decide +kernel) (by decide +kernel)
set_option maxRecDepth 20000 in
theorem gX5_plant_X5_goAlong : GoodIn wsX5_plant (wsV RX5 99 RX5 yX5_goAlong wsX5_goAlong) := goodIn_app (goodIn_of _ (by decide +kernel)) ggX5_plant_X5_goAlong
set_option maxRecDepth 20000 in
theorem ggX5_plant_X5_isThere : GoodIn wsX5_plant wsX5_isThere := goodIn_r _ [41, 23, 24, 15, 25, 42, 43, 44, 45, 7, 46, 47, 48, 49, 50, 51, 52, 53, 54, 55, 56, 57, 58, 59, 60, 61, 62, 63, 64, 65, 66, 67, 68, 69, 70, 71, 72] (by decide +kernel) (by decide +kernel)
set_option maxRecDepth 20000 in
theorem gX5_plant_X5_isThere : GoodIn wsX5_plant (wsV RX5 107 RX5 yX5_isThere wsX5_isThere) := goodIn_app (goodIn_of _ (by decide +kernel)) ggX5_plant_X5_isThere
theorem dX5_plant_0 : decode cX5_plant 0 = .ok (.aload_n 0, 1) := by decide +kernel
theorem dX5_plant_1 : decode cX5_plant 1 = .ok (.invokevirtual 99, 3) := by decide +kernel
theorem dX5_plant_4 : decode cX5_plant 4 = .ok (.aload_n 0, 1) := by decide +kernel
theorem dX5_plant_5 : decode cX5_plant 5 = .ok (.getfield 63, 3) := by decide +kernel
theorem dX5_plant_8 : decode cX5_plant 8 = .ok (.if_icmp .lt 29, 3) := by decide +kernel
theorem dX5_plant_11 : decode cX5_plant 11 = .ok (.aload_n 0, 1) := by decide +kernel
theorem dX5_plant_12 : decode cX5_plant 12 = .ok (.getfield 68, 3) := by decide +kernel
theorem dX5_plant_15 : decode cX5_plant 15 = .ok (.iconst 3, 1) := by decide +kernel
theorem dX5_plant_16 : decode cX5_plant 16 = .ok (.if_icmp .ne 21, 3) := by decide +kernel
theorem dX5_plant_19 : decode cX5_plant 19 = .ok (.aload_n 0, 1) := by decide +kernel
theorem dX5_plant_20 : decode cX5_plant 20 = .ok (.getfield 74, 3) := by decide +kernel
theorem dX5_plant_23 : decode cX5_plant 23 = .ok (.aload_n 0, 1) := by decide +kernel
theorem dX5_plant_24 : decode cX5_plant 24 = .ok (.getfield 71, 3) := by decide +kernel
theorem dX5_plant_27 : decode cX5_plant 27 = .ok (.if_icmp .ne 10, 3) := by decide +kernel
theorem dX5_plant_30 : decode cX5_plant 30 = .ok (.aload_n 0, 1) := by decide +kernel
theorem dX5_plant_31 : decode cX5_plant 31 = .ok (.getfield 81, 3) := by decide +kernel
theorem dX5_plant_34 : decode cX5_plant 34 = .ok (.ifCond .ne 7, 3) := by decide +kernel
theorem dX5_plant_37 : decode cX5_plant 37 = .ok (.ldc2_w 102, 3) := by decide +kernel
theorem dX5_plant_40 : decode cX5_plant 40 = .ok (.lreturn, 1) := by decide +kernel
theorem dX5_plant_41 : decode cX5_plant 41 = .ok (.aload_n 0, 1) := by decide +kernel
theorem dX5_plant_42 : decode cX5_plant 42 = .ok (.aload_n 0, 1) := by decide +kernel
theorem dX5_plant_43 : decode cX5_plant 43 = .ok (.getfield 71, 3) := by decide +kernel
theorem dX5_plant_46 : decode cX5_plant 46 = .ok (.putfield 104, 3) := by decide +kernel
theorem dX5_plant_49 : decode cX5_plant 49 = .ok (.iconst 0, 1) := by decide +kernel
theorem dX5_plant_50 : decode cX5_plant 50 = .ok (.istore_n 1, 1) := by decide +kernel
theorem dX5_plant_51 : decode cX5_plant 51 = .ok (.iload_n 1, 1) := by decide +kernel
theorem dX5_plant_52 : decode cX5_plant 52 = .ok (.bipush 15, 2) := by decide +kernel
theorem dX5_plant_54 : decode cX5_plant 54 = .ok (.if_icmp .ge 33, 3) := by decide +kernel
theorem dX5_plant_57 : decode cX5_plant 57 = .ok (.aload_n 0, 1) := by decide +kernel
theorem dX5_plant_58 : decode cX5_plant 58 = .ok (.getfield 13, 3) := by decide +kernel
theorem dX5_plant_61 : decode cX5_plant 61 = .ok (.iload_n 1, 1) := by decide +kernel
theorem dX5_plant_62 : decode cX5_plant 62 = .ok (.aload_n 0, 1) := by decide +kernel
theorem dX5_plant_63 : decode cX5_plant 63 = .ok (.iload_n 1, 1) := by decide +kernel
theorem dX5_plant_64 : decode cX5_plant 64 = .ok (.invokevirtual 107, 3) := by decide +kernel
theorem dX5_plant_67 : decode cX5_plant 67 = .ok (.ifCond .eq 12, 3) := by decide +kernel
theorem dX5_plant_70 : decode cX5_plant 70 = .ok (.aload_n 0, 1) := by decide +kernel
theorem dX5_plant_71 : decode cX5_plant 71 = .ok (.getfield 24, 3) := by decide +kernel
theorem dX5_plant_74 : decode cX5_plant 74 = .ok (.iload_n 1, 1) := by decide +kernel
theorem dX5_plant_75 : decode cX5_plant 75 = .ok (.iaload, 1) := by decide +kernel
theorem dX5_plant_76 : decode cX5_plant 76 = .ok (.goto 4, 3) := by decide +kernel
theorem dX5_plant_79 : decode cX5_plant 79 = .ok (.iconst 0, 1) := by decide +kernel
theorem dX5_plant_80 : decode cX5_plant 80 = .ok (.iastore, 1) := by decide +kernel
theorem dX5_plant_81 : decode cX5_plant 81 = .ok (.iinc 1 1, 3) := by decide +kernel
theorem dX5_plant_84 : decode cX5_plant 84 = .ok (.goto (-33), 3) := by decide +kernel
theorem dX5_plant_87 : decode cX5_plant 87 = .ok (.iconst 0, 1) := by decide +kernel
theorem dX5_plant_88 : decode cX5_plant 88 = .ok (.istore_n 1, 1) := by decide +kernel
theorem dX5_plant_89 : decode cX5_plant 89 = .ok (.iload_n 1, 1) := by decide +kernel
theorem dX5_plant_90 : decode cX5_plant 90 = .ok (.iconst 3, 1) := by decide +kernel
theorem dX5_plant_91 : decode cX5_plant 91 = .ok (.if_icmp .ge 16, 3) := by decide +kernel
theorem dX5_plant_94 : decode cX5_plant 94 = .ok (.aload_n 0, 1) := by decide +kernel
theorem dX5_plant_95 : decode cX5_plant 95 = .ok (.getfield 16, 3) := by decide +kernel
theorem dX5_plant_98 : decode cX5_plant 98 = .ok (.iload_n 1, 1) := by decide +kernel
theorem dX5_plant_99 : decode cX5_plant 99 = .ok (.lconst 0, 1) := by decide +kernel
theorem dX5_plant_100 : decode cX5_plant 100 = .ok (.lastore, 1) := by decide +kernel
theorem dX5_plant_101 : decode cX5_plant 101 = .ok (.iinc 1 1, 3) := by decide +kernel
theorem dX5_plant_104 : decode cX5_plant 104 = .ok (.goto (-15), 3) := by decide +kernel
theorem dX5_plant_107 : decode cX5_plant 107 = .ok (.aload_n 0, 1) := by decide +kernel
theorem dX5_plant_108 : decode cX5_plant 108 = .ok (.dup, 1) := by decide +kernel
theorem dX5_plant_109 : decode cX5_plant 109 = .ok (.getfield 110, 3) := by decide +kernel
theorem dX5_plant_112 : decode cX5_plant 112 = .ok (.iconst 1, 1) := by decide +kernel
theorem dX5_plant_113 : decode cX5_plant 113 = .ok (.iadd, 1) := by decide +kernel
theorem dX5_plant_114 : decode cX5_plant 114 = .ok (.putfield 110, 3) := by decide +kernel
theorem dX5_plant_117 : decode cX5_plant 117 = .ok (.aload_n 0, 1) := by decide +kernel
theorem dX5_plant_118 : decode cX5_plant 118 = .ok (.iconst 0, 1) := by decide +kernel
theorem dX5_plant_119 : decode cX5_plant 119 = .ok (.putfield 63, 3) := by decide +kernel
theorem dX5_plant_122 : decode cX5_plant 122 = .ok (.aload_n 0, 1) := by decide +kernel
theorem dX5_plant_123 : decode cX5_plant 123 = .ok (.getfield 104, 3) := by decide +kernel
theorem dX5_plant_126 : decode cX5_plant 126 = .ok (.i2l, 1) := by decide +kernel
theorem dX5_plant_127 : decode cX5_plant 127 = .ok (.lreturn, 1) := by decide +kernel
set_option maxRecDepth 20000 in
theorem ggX5_isPlace_X5_within : GoodIn wsX5_isPlace wsX5_within := goodIn_r _ [5] (by decide +kernel) (by decide +kernel)
set_option maxRecDepth 20000 in
theorem gX5_isPlace_X5_within : GoodIn wsX5_isPlace (va_wsS RX5 57 yX5_within wsX5_within) := goodIn_app (goodIn_of _ (by decide +kernel)) ggX5_isPlace_X5_within
theorem dX5_isPlace_0 : decode cX5_isPlace 0 = .ok (.iload_n 1, 1) := by decide +kernel
theorem dX5_isPlace_1 : decode cX5_isPlace 1 = .ok (.iconst 0, 1) := by decide +kernel
theorem dX5_isPlace_2 : decode cX5_isPlace 2 = .ok (.aload_n 0, 1) := by decide +kernel
theorem dX5_isPlace_3 : decode cX5_isPlace 3 = .ok (.getfield 104, 3) := by decide +kernel
theorem dX5_isPlace_6 : decode cX5_isPlace 6 = .ok (.iconst 1, 1) := by decide +kernel
theorem dX5_isPlace_7 : decode cX5_isPlace 7 = .ok (.isub, 1) := by decide +kernel
theorem dX5_isPlace_8 : decode cX5_isPlace 8 = .ok (.invokestatic 57, 3) := by decide +kernel
theorem dX5_isPlace_11 : decode cX5_isPlace 11 = .ok (.ireturn, 1) := by decide +kernel
set_option maxRecDepth 20000 in
theorem ggX5_isThere_X5_within : GoodIn wsX5_isThere wsX5_within := goodIn_r _ [4] (by decide +kernel) (by decide +kernel)
set_option maxRecDepth 20000 in
theorem gX5_isThere_X5_within : GoodIn wsX5_isThere (va_wsS RX5 57 yX5_within wsX5_within) := goodIn_app (goodIn_of _ (by decide +kernel)) ggX5_isThere_X5_within
set_option maxRecDepth 20000 in
theorem ggX5_isThere_X5_isPlace : GoodIn wsX5_isThere wsX5_isPlace := goodIn_r _ [8, 9, 1, 2, 3, 4, 10, 11, 12, 13, 14, 15, 16, 17, 18, 19, 20, 21, 22, 23, 24, 25, 26, 27, 28, 29, 30, 31, 32, 33, 34, 35, 36] (by decide +kernel) (by decide +kernel)
set_option maxRecDepth 20000 in
theorem gX5_isThere_X5_isPlace : GoodIn wsX5_isThere (wsV RX5 113 RX5 yX5_isPlace wsX5_isPlace) := goodIn_app (goodIn_of _ (by decide +kernel)) ggX5_isThere_X5_isPlace
theorem dX5_isThere_0 : decode cX5_isThere 0 = .ok (.iload_n 1, 1) := by decide +kernel
theorem dX5_isThere_1 : decode cX5_isThere 1 = .ok (.iconst 0, 1) := by decide +kernel
theorem dX5_isThere_2 : decode cX5_isThere 2 = .ok (.bipush 14, 2) := by decide +kernel
theorem dX5_isThere_4 : decode cX5_isThere 4 = .ok (.invokestatic 57, 3) := by decide +kernel
theorem dX5_isThere_7 : decode cX5_isThere 7 = .ok (.ifCond .eq 33, 3) := by decide +kernel
theorem dX5_isThere_10 : decode cX5_isThere 10 = .ok (.iload_n 1, 1) := by decide +kernel
theorem dX5_isThere_11 : decode cX5_isThere 11 = .ok (.bipush 8, 2) := by decide +kernel
theorem dX5_isThere_13 : decode cX5_isThere 13 = .ok (.if_icmp .gt 13, 3) := by decide +kernel
theorem dX5_isThere_16 : decode cX5_isThere 16 = .ok (.aload_n 0, 1) := by decide +kernel
theorem dX5_isThere_17 : decode cX5_isThere 17 = .ok (.iload_n 1, 1) := by decide +kernel
theorem dX5_isThere_18 : decode cX5_isThere 18 = .ok (.iconst 3, 1) := by decide +kernel
theorem dX5_isThere_19 : decode cX5_isThere 19 = .ok (.idiv, 1) := by decide +kernel
theorem dX5_isThere_20 : decode cX5_isThere 20 = .ok (.invokevirtual 113, 3) := by decide +kernel
theorem dX5_isThere_23 : decode cX5_isThere 23 = .ok (.ifCond .eq 17, 3) := by decide +kernel
theorem dX5_isThere_26 : decode cX5_isThere 26 = .ok (.aload_n 0, 1) := by decide +kernel
theorem dX5_isThere_27 : decode cX5_isThere 27 = .ok (.iload_n 1, 1) := by decide +kernel
theorem dX5_isThere_28 : decode cX5_isThere 28 = .ok (.iconst 3, 1) := by decide +kernel
theorem dX5_isThere_29 : decode cX5_isThere 29 = .ok (.irem, 1) := by decide +kernel
theorem dX5_isThere_30 : decode cX5_isThere 30 = .ok (.invokevirtual 113, 3) := by decide +kernel
theorem dX5_isThere_33 : decode cX5_isThere 33 = .ok (.ifCond .eq 7, 3) := by decide +kernel
theorem dX5_isThere_36 : decode cX5_isThere 36 = .ok (.iconst 1, 1) := by decide +kernel
theorem dX5_isThere_37 : decode cX5_isThere 37 = .ok (.goto 4, 3) := by decide +kernel
theorem dX5_isThere_40 : decode cX5_isThere 40 = .ok (.iconst 0, 1) := by decide +kernel
theorem dX5_isThere_41 : decode cX5_isThere 41 = .ok (.ireturn, 1) := by decide +kernel
set_option maxRecDepth 20000 in
theorem ggX5_alter_X5_isThere : GoodIn wsX5_alter wsX5_isThere := goodIn_r _ [8, 9, 10, 7, 11, 12, 13, 14, 15, 16, 17, 18, 19, 20, 21, 22, 23, 24, 25, 26, 27, 28, 29, 30, 31, 32, 33, 34, 35, 36, 37, 38, 39, 40, 41, 42, 43] (by decide +kernel) (by decide +kernel)
set_option maxRecDepth 20000 in
theorem gX5_alter_X5_isThere : GoodIn wsX5_alter (wsV RX5 107 RX5 yX5_isThere wsX5_isThere) := goodIn_app (goodIn_of _ (by decide +kernel)) ggX5_alter_X5_isThere
set_option maxRecDepth 20000 in
theorem ggX5_alter_X5_within : GoodIn wsX5_alter wsX5_within := goodIn_r _ [11] (by decide +kernel) (by decide +kernel)
set_option maxRecDepth 20000 in
theorem gX5_alter_X5_within : GoodIn wsX5_alter (va_wsS RX5 57 yX5_within wsX5_within) := goodIn_app (goodIn_of _ (by decide +kernel)) ggX5_alter_X5_within
theorem dX5_alter_0 : decode cX5_alter 0 = .ok (.aload_n 0, 1) := by decide +kernel
theorem dX5_alter_1 : decode cX5_alter 1 = .ok (.iload_n 1, 1) := by decide +kernel
theorem dX5_alter_2 : decode cX5_alter 2 = .ok (.invokevirtual 107, 3) := by decide +kernel
theorem dX5_alter_5 : decode cX5_alter 5 = .ok (.ifCond .ne 7, 3) := by decide +kernel
theorem dX5_alter_8 : decode cX5_alter 8 = .ok (.ldc2_w 116, 3) := by decide +kernel
theorem dX5_alter_11 : decode cX5_alter 11 = .ok (.lreturn, 1) := by decide +kernel
theorem dX5_alter_12 : decode cX5_alter 12 = .ok (.iload_n 2, 1) := by decide +kernel
theorem dX5_alter_13 : decode cX5_alter 13 = .ok (.bipush (-2), 2) := by decide +kernel
theorem dX5_alter_15 : decode cX5_alter 15 = .ok (.iconst 2, 1) := by decide +kernel
theorem dX5_alter_16 : decode cX5_alter 16 = .ok (.invokestatic 57, 3) := by decide +kernel
theorem dX5_alter_19 : decode cX5_alter 19 = .ok (.ifCond .ne 7, 3) := by decide +kernel
theorem dX5_alter_22 : decode cX5_alter 22 = .ok (.ldc2_w 61, 3) := by decide +kernel
theorem dX5_alter_25 : decode cX5_alter 25 = .ok (.lreturn, 1) := by decide +kernel
theorem dX5_alter_26 : decode cX5_alter 26 = .ok (.aload_n 0, 1) := by decide +kernel
theorem dX5_alter_27 : decode cX5_alter 27 = .ok (.getfield 13, 3) := by decide +kernel
theorem dX5_alter_30 : decode cX5_alter 30 = .ok (.iload_n 1, 1) := by decide +kernel
