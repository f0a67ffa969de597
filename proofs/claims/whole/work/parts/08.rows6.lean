theorem dX5_layInputs_7 : decode cX5_layInputs 7 = .ok (.aload_n 0, 1) := by decide +kernel
theorem dX5_layInputs_8 : decode cX5_layInputs 8 = .ok (.getfield 42, 3) := by decide +kernel
theorem dX5_layInputs_11 : decode cX5_layInputs 11 = .ok (.iload_n 3, 1) := by decide +kernel
theorem dX5_layInputs_12 : decode cX5_layInputs 12 = .ok (.iload_n 3, 1) := by decide +kernel
theorem dX5_layInputs_13 : decode cX5_layInputs 13 = .ok (.iload_n 2, 1) := by decide +kernel
theorem dX5_layInputs_14 : decode cX5_layInputs 14 = .ok (.if_icmp .ne 7, 3) := by decide +kernel
theorem dX5_layInputs_17 : decode cX5_layInputs 17 = .ok (.lconst 1, 1) := by decide +kernel
theorem dX5_layInputs_18 : decode cX5_layInputs 18 = .ok (.goto 4, 3) := by decide +kernel
theorem dX5_layInputs_21 : decode cX5_layInputs 21 = .ok (.lconst 0, 1) := by decide +kernel
theorem dX5_layInputs_22 : decode cX5_layInputs 22 = .ok (.lastore, 1) := by decide +kernel
theorem dX5_layInputs_23 : decode cX5_layInputs 23 = .ok (.iinc 3 1, 3) := by decide +kernel
theorem dX5_layInputs_26 : decode cX5_layInputs 26 = .ok (.goto (-24), 3) := by decide +kernel
theorem dX5_layInputs_29 : decode cX5_layInputs 29 = .ok (.iconst 0, 1) := by decide +kernel
theorem dX5_layInputs_30 : decode cX5_layInputs 30 = .ok (.istore_n 3, 1) := by decide +kernel
theorem dX5_layInputs_31 : decode cX5_layInputs 31 = .ok (.iload_n 3, 1) := by decide +kernel
theorem dX5_layInputs_32 : decode cX5_layInputs 32 = .ok (.aload_n 0, 1) := by decide +kernel
theorem dX5_layInputs_33 : decode cX5_layInputs 33 = .ok (.getfield 104, 3) := by decide +kernel
theorem dX5_layInputs_36 : decode cX5_layInputs 36 = .ok (.if_icmp .ge 18, 3) := by decide +kernel
theorem dX5_layInputs_39 : decode cX5_layInputs 39 = .ok (.aload_n 0, 1) := by decide +kernel
theorem dX5_layInputs_40 : decode cX5_layInputs 40 = .ok (.iload_n 1, 1) := by decide +kernel
theorem dX5_layInputs_41 : decode cX5_layInputs 41 = .ok (.aload_n 0, 1) := by decide +kernel
theorem dX5_layInputs_42 : decode cX5_layInputs 42 = .ok (.getfield 42, 3) := by decide +kernel
theorem dX5_layInputs_45 : decode cX5_layInputs 45 = .ok (.invokevirtual 163, 3) := by decide +kernel
theorem dX5_layInputs_48 : decode cX5_layInputs 48 = .ok (.iinc 3 1, 3) := by decide +kernel
theorem dX5_layInputs_51 : decode cX5_layInputs 51 = .ok (.goto (-20), 3) := by decide +kernel
theorem dX5_layInputs_54 : decode cX5_layInputs 54 = .ok (.iconst 0, 1) := by decide +kernel
theorem dX5_layInputs_55 : decode cX5_layInputs 55 = .ok (.istore_n 3, 1) := by decide +kernel
theorem dX5_layInputs_56 : decode cX5_layInputs 56 = .ok (.iload_n 3, 1) := by decide +kernel
theorem dX5_layInputs_57 : decode cX5_layInputs 57 = .ok (.iconst 5, 1) := by decide +kernel
theorem dX5_layInputs_58 : decode cX5_layInputs 58 = .ok (.if_icmp .ge 52, 3) := by decide +kernel
theorem dX5_layInputs_61 : decode cX5_layInputs 61 = .ok (.aload_n 0, 1) := by decide +kernel
theorem dX5_layInputs_62 : decode cX5_layInputs 62 = .ok (.getfield 36, 3) := by decide +kernel
theorem dX5_layInputs_65 : decode cX5_layInputs 65 = .ok (.iconst 3, 1) := by decide +kernel
theorem dX5_layInputs_66 : decode cX5_layInputs 66 = .ok (.iload_n 3, 1) := by decide +kernel
theorem dX5_layInputs_67 : decode cX5_layInputs 67 = .ok (.imul, 1) := by decide +kernel
theorem dX5_layInputs_68 : decode cX5_layInputs 68 = .ok (.iload_n 2, 1) := by decide +kernel
theorem dX5_layInputs_69 : decode cX5_layInputs 69 = .ok (.iadd, 1) := by decide +kernel
theorem dX5_layInputs_70 : decode cX5_layInputs 70 = .ok (.iload_n 3, 1) := by decide +kernel
theorem dX5_layInputs_71 : decode cX5_layInputs 71 = .ok (.aload_n 0, 1) := by decide +kernel
theorem dX5_layInputs_72 : decode cX5_layInputs 72 = .ok (.getfield 104, 3) := by decide +kernel
theorem dX5_layInputs_75 : decode cX5_layInputs 75 = .ok (.if_icmp .ge 27, 3) := by decide +kernel
theorem dX5_layInputs_78 : decode cX5_layInputs 78 = .ok (.aload_n 0, 1) := by decide +kernel
theorem dX5_layInputs_79 : decode cX5_layInputs 79 = .ok (.aload_n 0, 1) := by decide +kernel
theorem dX5_layInputs_80 : decode cX5_layInputs 80 = .ok (.getfield 33, 3) := by decide +kernel
theorem dX5_layInputs_83 : decode cX5_layInputs 83 = .ok (.aload_n 0, 1) := by decide +kernel
theorem dX5_layInputs_84 : decode cX5_layInputs 84 = .ok (.getfield 104, 3) := by decide +kernel
theorem dX5_layInputs_87 : decode cX5_layInputs 87 = .ok (.iconst 1, 1) := by decide +kernel
theorem dX5_layInputs_88 : decode cX5_layInputs 88 = .ok (.isub, 1) := by decide +kernel
theorem dX5_layInputs_89 : decode cX5_layInputs 89 = .ok (.iload_n 3, 1) := by decide +kernel
theorem dX5_layInputs_90 : decode cX5_layInputs 90 = .ok (.isub, 1) := by decide +kernel
theorem dX5_layInputs_91 : decode cX5_layInputs 91 = .ok (.aload_n 0, 1) := by decide +kernel
theorem dX5_layInputs_92 : decode cX5_layInputs 92 = .ok (.getfield 42, 3) := by decide +kernel
theorem dX5_layInputs_95 : decode cX5_layInputs 95 = .ok (.invokevirtual 148, 3) := by decide +kernel
theorem dX5_layInputs_98 : decode cX5_layInputs 98 = .ok (.lneg, 1) := by decide +kernel
theorem dX5_layInputs_99 : decode cX5_layInputs 99 = .ok (.goto 4, 3) := by decide +kernel
theorem dX5_layInputs_102 : decode cX5_layInputs 102 = .ok (.lconst 0, 1) := by decide +kernel
theorem dX5_layInputs_103 : decode cX5_layInputs 103 = .ok (.lastore, 1) := by decide +kernel
theorem dX5_layInputs_104 : decode cX5_layInputs 104 = .ok (.iinc 3 1, 3) := by decide +kernel
theorem dX5_layInputs_107 : decode cX5_layInputs 107 = .ok (.goto (-51), 3) := by decide +kernel
theorem dX5_layInputs_110 : decode cX5_layInputs 110 = .ok (.return_, 1) := by decide +kernel
set_option maxRecDepth 20000 in
theorem ggX5_layStates_X5_turnOn : GoodIn wsX5_layStates wsX5_turnOn := goodIn_r _ [11, 3, 12, 13, 14, 15, 10, 16, 5, 17, 18, 19, 20, 21, 22, 23, 24, 25, 26, 27, 28, 29, 30, 31, 32, 33, 34, 35, 36, 37, 38, 39, 40, 41, 42, 43] (by decide +kernel) (by decide +kernel)
set_option maxRecDepth 20000 in
theorem gX5_layStates_X5_turnOn : GoodIn wsX5_layStates (wsV RX5 163 RX5 yX5_turnOn wsX5_turnOn) := goodIn_app (goodIn_of _ (by decide +kernel)) ggX5_layStates_X5_turnOn
theorem dX5_layStates_0 : decode cX5_layStates 0 = .ok (.iconst 0, 1) := by decide +kernel
theorem dX5_layStates_1 : decode cX5_layStates 1 = .ok (.istore_n 3, 1) := by decide +kernel
theorem dX5_layStates_2 : decode cX5_layStates 2 = .ok (.iload_n 3, 1) := by decide +kernel
theorem dX5_layStates_3 : decode cX5_layStates 3 = .ok (.iconst 3, 1) := by decide +kernel
theorem dX5_layStates_4 : decode cX5_layStates 4 = .ok (.if_icmp .ge 28, 3) := by decide +kernel
theorem dX5_layStates_7 : decode cX5_layStates 7 = .ok (.aload_n 0, 1) := by decide +kernel
theorem dX5_layStates_8 : decode cX5_layStates 8 = .ok (.getfield 42, 3) := by decide +kernel
theorem dX5_layStates_11 : decode cX5_layStates 11 = .ok (.iload_n 3, 1) := by decide +kernel
theorem dX5_layStates_12 : decode cX5_layStates 12 = .ok (.iload_n 3, 1) := by decide +kernel
theorem dX5_layStates_13 : decode cX5_layStates 13 = .ok (.iload_n 2, 1) := by decide +kernel
theorem dX5_layStates_14 : decode cX5_layStates 14 = .ok (.if_icmp .ne 10, 3) := by decide +kernel
theorem dX5_layStates_17 : decode cX5_layStates 17 = .ok (.aload_n 0, 1) := by decide +kernel
theorem dX5_layStates_18 : decode cX5_layStates 18 = .ok (.getfield 167, 3) := by decide +kernel
theorem dX5_layStates_21 : decode cX5_layStates 21 = .ok (.goto 4, 3) := by decide +kernel
theorem dX5_layStates_24 : decode cX5_layStates 24 = .ok (.lconst 0, 1) := by decide +kernel
theorem dX5_layStates_25 : decode cX5_layStates 25 = .ok (.lastore, 1) := by decide +kernel
theorem dX5_layStates_26 : decode cX5_layStates 26 = .ok (.iinc 3 1, 3) := by decide +kernel
theorem dX5_layStates_29 : decode cX5_layStates 29 = .ok (.goto (-27), 3) := by decide +kernel
theorem dX5_layStates_32 : decode cX5_layStates 32 = .ok (.iconst 0, 1) := by decide +kernel
theorem dX5_layStates_33 : decode cX5_layStates 33 = .ok (.istore_n 3, 1) := by decide +kernel
theorem dX5_layStates_34 : decode cX5_layStates 34 = .ok (.iload_n 3, 1) := by decide +kernel
theorem dX5_layStates_35 : decode cX5_layStates 35 = .ok (.iconst 5, 1) := by decide +kernel
theorem dX5_layStates_36 : decode cX5_layStates 36 = .ok (.if_icmp .ge 118, 3) := by decide +kernel
theorem dX5_layStates_39 : decode cX5_layStates 39 = .ok (.iconst 0, 1) := by decide +kernel
theorem dX5_layStates_40 : decode cX5_layStates 40 = .ok (.istore 4, 2) := by decide +kernel
theorem dX5_layStates_42 : decode cX5_layStates 42 = .ok (.iload 4, 2) := by decide +kernel
theorem dX5_layStates_44 : decode cX5_layStates 44 = .ok (.aload_n 0, 1) := by decide +kernel
theorem dX5_layStates_45 : decode cX5_layStates 45 = .ok (.getfield 104, 3) := by decide +kernel
theorem dX5_layStates_48 : decode cX5_layStates 48 = .ok (.if_icmp .ge 32, 3) := by decide +kernel
theorem dX5_layStates_51 : decode cX5_layStates 51 = .ok (.aload_n 0, 1) := by decide +kernel
theorem dX5_layStates_52 : decode cX5_layStates 52 = .ok (.getfield 39, 3) := by decide +kernel
theorem dX5_layStates_55 : decode cX5_layStates 55 = .ok (.bipush 9, 2) := by decide +kernel
theorem dX5_layStates_57 : decode cX5_layStates 57 = .ok (.iload_n 3, 1) := by decide +kernel
theorem dX5_layStates_58 : decode cX5_layStates 58 = .ok (.imul, 1) := by decide +kernel
theorem dX5_layStates_59 : decode cX5_layStates 59 = .ok (.iconst 3, 1) := by decide +kernel
theorem dX5_layStates_60 : decode cX5_layStates 60 = .ok (.iload 4, 2) := by decide +kernel
theorem dX5_layStates_62 : decode cX5_layStates 62 = .ok (.imul, 1) := by decide +kernel
theorem dX5_layStates_63 : decode cX5_layStates 63 = .ok (.iadd, 1) := by decide +kernel
theorem dX5_layStates_64 : decode cX5_layStates 64 = .ok (.iload_n 2, 1) := by decide +kernel
theorem dX5_layStates_65 : decode cX5_layStates 65 = .ok (.iadd, 1) := by decide +kernel
theorem dX5_layStates_66 : decode cX5_layStates 66 = .ok (.aload_n 0, 1) := by decide +kernel
theorem dX5_layStates_67 : decode cX5_layStates 67 = .ok (.getfield 42, 3) := by decide +kernel
theorem dX5_layStates_70 : decode cX5_layStates 70 = .ok (.iload 4, 2) := by decide +kernel
theorem dX5_layStates_72 : decode cX5_layStates 72 = .ok (.laload, 1) := by decide +kernel
theorem dX5_layStates_73 : decode cX5_layStates 73 = .ok (.lastore, 1) := by decide +kernel
theorem dX5_layStates_74 : decode cX5_layStates 74 = .ok (.iinc 4 1, 3) := by decide +kernel
theorem dX5_layStates_77 : decode cX5_layStates 77 = .ok (.goto (-35), 3) := by decide +kernel
theorem dX5_layStates_80 : decode cX5_layStates 80 = .ok (.aload_n 0, 1) := by decide +kernel
theorem dX5_layStates_81 : decode cX5_layStates 81 = .ok (.iload_n 1, 1) := by decide +kernel
theorem dX5_layStates_82 : decode cX5_layStates 82 = .ok (.aload_n 0, 1) := by decide +kernel
theorem dX5_layStates_83 : decode cX5_layStates 83 = .ok (.getfield 42, 3) := by decide +kernel
theorem dX5_layStates_86 : decode cX5_layStates 86 = .ok (.invokevirtual 163, 3) := by decide +kernel
theorem dX5_layStates_89 : decode cX5_layStates 89 = .ok (.iconst 0, 1) := by decide +kernel
theorem dX5_layStates_90 : decode cX5_layStates 90 = .ok (.istore 4, 2) := by decide +kernel
theorem dX5_layStates_92 : decode cX5_layStates 92 = .ok (.iload 4, 2) := by decide +kernel
theorem dX5_layStates_94 : decode cX5_layStates 94 = .ok (.aload_n 0, 1) := by decide +kernel
theorem dX5_layStates_95 : decode cX5_layStates 95 = .ok (.getfield 104, 3) := by decide +kernel
theorem dX5_layStates_98 : decode cX5_layStates 98 = .ok (.if_icmp .ge 50, 3) := by decide +kernel
theorem dX5_layStates_101 : decode cX5_layStates 101 = .ok (.aload_n 0, 1) := by decide +kernel
theorem dX5_layStates_102 : decode cX5_layStates 102 = .ok (.getfield 42, 3) := by decide +kernel
theorem dX5_layStates_105 : decode cX5_layStates 105 = .ok (.iload 4, 2) := by decide +kernel
theorem dX5_layStates_107 : decode cX5_layStates 107 = .ok (.dup2, 1) := by decide +kernel
theorem dX5_layStates_108 : decode cX5_layStates 108 = .ok (.laload, 1) := by decide +kernel
theorem dX5_layStates_109 : decode cX5_layStates 109 = .ok (.aload_n 0, 1) := by decide +kernel
theorem dX5_layStates_110 : decode cX5_layStates 110 = .ok (.getfield 13, 3) := by decide +kernel
theorem dX5_layStates_113 : decode cX5_layStates 113 = .ok (.iload_n 1, 1) := by decide +kernel
theorem dX5_layStates_114 : decode cX5_layStates 114 = .ok (.ifCond .eq 8, 3) := by decide +kernel
theorem dX5_layStates_117 : decode cX5_layStates 117 = .ok (.bipush 12, 2) := by decide +kernel
theorem dX5_layStates_119 : decode cX5_layStates 119 = .ok (.goto 5, 3) := by decide +kernel
theorem dX5_layStates_122 : decode cX5_layStates 122 = .ok (.bipush 9, 2) := by decide +kernel
theorem dX5_layStates_124 : decode cX5_layStates 124 = .ok (.iload 4, 2) := by decide +kernel
theorem dX5_layStates_126 : decode cX5_layStates 126 = .ok (.iadd, 1) := by decide +kernel
theorem dX5_layStates_127 : decode cX5_layStates 127 = .ok (.iaload, 1) := by decide +kernel
theorem dX5_layStates_128 : decode cX5_layStates 128 = .ok (.i2l, 1) := by decide +kernel
theorem dX5_layStates_129 : decode cX5_layStates 129 = .ok (.aload_n 0, 1) := by decide +kernel
theorem dX5_layStates_130 : decode cX5_layStates 130 = .ok (.getfield 36, 3) := by decide +kernel
theorem dX5_layStates_133 : decode cX5_layStates 133 = .ok (.iconst 3, 1) := by decide +kernel
theorem dX5_layStates_134 : decode cX5_layStates 134 = .ok (.iload_n 3, 1) := by decide +kernel
theorem dX5_layStates_135 : decode cX5_layStates 135 = .ok (.imul, 1) := by decide +kernel
theorem dX5_layStates_136 : decode cX5_layStates 136 = .ok (.iload_n 2, 1) := by decide +kernel
theorem dX5_layStates_137 : decode cX5_layStates 137 = .ok (.iadd, 1) := by decide +kernel
theorem dX5_layStates_138 : decode cX5_layStates 138 = .ok (.laload, 1) := by decide +kernel
theorem dX5_layStates_139 : decode cX5_layStates 139 = .ok (.lmul, 1) := by decide +kernel
theorem dX5_layStates_140 : decode cX5_layStates 140 = .ok (.ladd, 1) := by decide +kernel
theorem dX5_layStates_141 : decode cX5_layStates 141 = .ok (.lastore, 1) := by decide +kernel
theorem dX5_layStates_142 : decode cX5_layStates 142 = .ok (.iinc 4 1, 3) := by decide +kernel
theorem dX5_layStates_145 : decode cX5_layStates 145 = .ok (.goto (-53), 3) := by decide +kernel
theorem dX5_layStates_148 : decode cX5_layStates 148 = .ok (.iinc 3 1, 3) := by decide +kernel
theorem dX5_layStates_151 : decode cX5_layStates 151 = .ok (.goto (-117), 3) := by decide +kernel
theorem dX5_layStates_154 : decode cX5_layStates 154 = .ok (.return_, 1) := by decide +kernel
set_option maxRecDepth 20000 in
theorem ggX5_layRest_X5_layRows : GoodIn wsX5_layRest wsX5_layRows := goodIn_r _ [8, 1, 3, 9, 10, 11, 12, 7, 13, 14, 15, 16, 17, 18, 19, 20, 44, 45, 46, 47, 48, 49, 50, 51, 52, 53, 54, 55, 56, 57, 58, 59, 60, 61, 62, 63, 64, 65, 66, 67, 68, 69, 70] (by decide +kernel) (by decide +kernel)
set_option maxRecDepth 20000 in
theorem gX5_layRest_X5_layRows : GoodIn wsX5_layRest (wsV RX5 140 RX5 yX5_layRows wsX5_layRows) := goodIn_app (goodIn_of _ (by decide +kernel)) ggX5_layRest_X5_layRows
set_option maxRecDepth 20000 in
theorem ggX5_layRest_X5_determinant : GoodIn wsX5_layRest wsX5_determinant := goodIn_r _ [24, 25, 26, 7, 27] (by decide +kernel) (by decide +kernel)
set_option maxRecDepth 20000 in
theorem gX5_layRest_X5_determinant : GoodIn wsX5_layRest (wsV RX5 148 RX5 yX5_determinant wsX5_determinant) := goodIn_app (goodIn_of _ (by decide +kernel)) ggX5_layRest_X5_determinant
set_option maxRecDepth 20000 in
theorem ggX5_layRest_X5_layInputs : GoodIn wsX5_layRest wsX5_layInputs := goodIn_r _ [31, 32, 3, 33, 1, 34, 35, 36, 7, 37, 38, 17, 18, 19, 20, 9, 21, 22, 23, 24, 25, 26, 27, 44, 45, 46, 47, 48, 49, 50, 51, 52, 53, 54, 55, 56, 57, 58, 59, 60, 61, 62, 63, 64, 65, 66, 67, 68, 69, 70] (by decide +kernel) (by decide +kernel)
set_option maxRecDepth 20000 in
theorem gX5_layRest_X5_layInputs : GoodIn wsX5_layRest (wsV RX5 171 RX5 yX5_layInputs wsX5_layInputs) := goodIn_app (goodIn_of _ (by decide +kernel)) ggX5_layRest_X5_layInputs
set_option maxRecDepth 20000 in
theorem ggX5_layRest_X5_layStates : GoodIn wsX5_layRest wsX5_layStates := goodIn_r _ [42, 32, 2, 3, 43, 9, 33, 34, 35, 36, 7, 37, 38, 17, 18, 19, 20, 44, 45, 46, 47, 48, 49, 50, 51, 52, 53, 54, 55, 56, 57, 58, 59, 60, 61, 62, 63, 64, 65, 66, 67, 68, 69, 70] (by decide +kernel) (by decide +kernel)
set_option maxRecDepth 20000 in
theorem gX5_layRest_X5_layStates : GoodIn wsX5_layRest (wsV RX5 175 RX5 yX5_layStates wsX5_layStates) := goodIn_app (goodIn_of _ (by decide +kernel)) ggX5_layRest_X5_layStates
theorem dX5_layRest_0 : decode cX5_layRest 0 = .ok (.aload_n 0, 1) := by decide +kernel
theorem dX5_layRest_1 : decode cX5_layRest 1 = .ok (.iload_n 1, 1) := by decide +kernel
theorem dX5_layRest_2 : decode cX5_layRest 2 = .ok (.invokevirtual 140, 3) := by decide +kernel
theorem dX5_layRest_5 : decode cX5_layRest 5 = .ok (.aload_n 0, 1) := by decide +kernel
theorem dX5_layRest_6 : decode cX5_layRest 6 = .ok (.aload_n 0, 1) := by decide +kernel
theorem dX5_layRest_7 : decode cX5_layRest 7 = .ok (.aload_n 0, 1) := by decide +kernel
theorem dX5_layRest_8 : decode cX5_layRest 8 = .ok (.getfield 33, 3) := by decide +kernel
theorem dX5_layRest_11 : decode cX5_layRest 11 = .ok (.iconst 3, 1) := by decide +kernel
theorem dX5_layRest_12 : decode cX5_layRest 12 = .ok (.aload_n 0, 1) := by decide +kernel
theorem dX5_layRest_13 : decode cX5_layRest 13 = .ok (.getfield 33, 3) := by decide +kernel
theorem dX5_layRest_16 : decode cX5_layRest 16 = .ok (.invokevirtual 148, 3) := by decide +kernel
theorem dX5_layRest_19 : decode cX5_layRest 19 = .ok (.putfield 167, 3) := by decide +kernel
theorem dX5_layRest_22 : decode cX5_layRest 22 = .ok (.iconst 0, 1) := by decide +kernel
theorem dX5_layRest_23 : decode cX5_layRest 23 = .ok (.istore_n 2, 1) := by decide +kernel
theorem dX5_layRest_24 : decode cX5_layRest 24 = .ok (.iload_n 2, 1) := by decide +kernel
theorem dX5_layRest_25 : decode cX5_layRest 25 = .ok (.aload_n 0, 1) := by decide +kernel
theorem dX5_layRest_26 : decode cX5_layRest 26 = .ok (.getfield 104, 3) := by decide +kernel
theorem dX5_layRest_29 : decode cX5_layRest 29 = .ok (.if_icmp .ge 21, 3) := by decide +kernel
theorem dX5_layRest_32 : decode cX5_layRest 32 = .ok (.aload_n 0, 1) := by decide +kernel
theorem dX5_layRest_33 : decode cX5_layRest 33 = .ok (.iload_n 1, 1) := by decide +kernel
theorem dX5_layRest_34 : decode cX5_layRest 34 = .ok (.iload_n 2, 1) := by decide +kernel
theorem dX5_layRest_35 : decode cX5_layRest 35 = .ok (.invokevirtual 171, 3) := by decide +kernel
theorem dX5_layRest_38 : decode cX5_layRest 38 = .ok (.aload_n 0, 1) := by decide +kernel
theorem dX5_layRest_39 : decode cX5_layRest 39 = .ok (.iload_n 1, 1) := by decide +kernel
theorem dX5_layRest_40 : decode cX5_layRest 40 = .ok (.iload_n 2, 1) := by decide +kernel
theorem dX5_layRest_41 : decode cX5_layRest 41 = .ok (.invokevirtual 175, 3) := by decide +kernel
theorem dX5_layRest_44 : decode cX5_layRest 44 = .ok (.iinc 2 1, 3) := by decide +kernel
theorem dX5_layRest_47 : decode cX5_layRest 47 = .ok (.goto (-23), 3) := by decide +kernel
theorem dX5_layRest_50 : decode cX5_layRest 50 = .ok (.return_, 1) := by decide +kernel
theorem dX5_divisor_0 : decode cX5_divisor 0 = .ok (.lload_n 0, 1) := by decide +kernel
theorem dX5_divisor_1 : decode cX5_divisor 1 = .ok (.lconst 0, 1) := by decide +kernel
theorem dX5_divisor_2 : decode cX5_divisor 2 = .ok (.lcmp, 1) := by decide +kernel
theorem dX5_divisor_3 : decode cX5_divisor 3 = .ok (.ifCond .ge 8, 3) := by decide +kernel
theorem dX5_divisor_6 : decode cX5_divisor 6 = .ok (.lload_n 0, 1) := by decide +kernel
theorem dX5_divisor_7 : decode cX5_divisor 7 = .ok (.lneg, 1) := by decide +kernel
theorem dX5_divisor_8 : decode cX5_divisor 8 = .ok (.goto 4, 3) := by decide +kernel
theorem dX5_divisor_11 : decode cX5_divisor 11 = .ok (.lload_n 0, 1) := by decide +kernel
theorem dX5_divisor_12 : decode cX5_divisor 12 = .ok (.lstore 4, 2) := by decide +kernel
theorem dX5_divisor_14 : decode cX5_divisor 14 = .ok (.lload_n 2, 1) := by decide +kernel
theorem dX5_divisor_15 : decode cX5_divisor 15 = .ok (.lconst 0, 1) := by decide +kernel
theorem dX5_divisor_16 : decode cX5_divisor 16 = .ok (.lcmp, 1) := by decide +kernel
theorem dX5_divisor_17 : decode cX5_divisor 17 = .ok (.ifCond .ge 8, 3) := by decide +kernel
theorem dX5_divisor_20 : decode cX5_divisor 20 = .ok (.lload_n 2, 1) := by decide +kernel
theorem dX5_divisor_21 : decode cX5_divisor 21 = .ok (.lneg, 1) := by decide +kernel
theorem dX5_divisor_22 : decode cX5_divisor 22 = .ok (.goto 4, 3) := by decide +kernel
theorem dX5_divisor_25 : decode cX5_divisor 25 = .ok (.lload_n 2, 1) := by decide +kernel
theorem dX5_divisor_26 : decode cX5_divisor 26 = .ok (.lstore 6, 2) := by decide +kernel
theorem dX5_divisor_28 : decode cX5_divisor 28 = .ok (.lload 6, 2) := by decide +kernel
theorem dX5_divisor_30 : decode cX5_divisor 30 = .ok (.lconst 0, 1) := by decide +kernel
theorem dX5_divisor_31 : decode cX5_divisor 31 = .ok (.lcmp, 1) := by decide +kernel
theorem dX5_divisor_32 : decode cX5_divisor 32 = .ok (.ifCond .eq 21, 3) := by decide +kernel
theorem dX5_divisor_35 : decode cX5_divisor 35 = .ok (.lload 4, 2) := by decide +kernel
theorem dX5_divisor_37 : decode cX5_divisor 37 = .ok (.lload 6, 2) := by decide +kernel
theorem dX5_divisor_39 : decode cX5_divisor 39 = .ok (.lrem, 1) := by decide +kernel
theorem dX5_divisor_40 : decode cX5_divisor 40 = .ok (.lstore 8, 2) := by decide +kernel
theorem dX5_divisor_42 : decode cX5_divisor 42 = .ok (.lload 6, 2) := by decide +kernel
theorem dX5_divisor_44 : decode cX5_divisor 44 = .ok (.lstore 4, 2) := by decide +kernel
theorem dX5_divisor_46 : decode cX5_divisor 46 = .ok (.lload 8, 2) := by decide +kernel
theorem dX5_divisor_48 : decode cX5_divisor 48 = .ok (.lstore 6, 2) := by decide +kernel
theorem dX5_divisor_50 : decode cX5_divisor 50 = .ok (.goto (-22), 3) := by decide +kernel
theorem dX5_divisor_53 : decode cX5_divisor 53 = .ok (.lload 4, 2) := by decide +kernel
theorem dX5_divisor_55 : decode cX5_divisor 55 = .ok (.lreturn, 1) := by decide +kernel
set_option maxRecDepth 20000 in
theorem ggX5_lowest_X5_divisor : GoodIn wsX5_lowest wsX5_divisor := goodIn_r _ [4] (by decide +kernel) (by decide +kernel)
set_option maxRecDepth 20000 in
theorem gX5_lowest_X5_divisor : GoodIn wsX5_lowest (va_wsS RX5 178 yX5_divisor wsX5_divisor) := goodIn_app (goodIn_of _ (by decide +kernel)) ggX5_lowest_X5_divisor
theorem dX5_lowest_0 : decode cX5_lowest 0 = .ok (.lload_n 0, 1) := by decide +kernel
theorem dX5_lowest_1 : decode cX5_lowest 1 = .ok (.lload_n 2, 1) := by decide +kernel
theorem dX5_lowest_2 : decode cX5_lowest 2 = .ok (.invokestatic 178, 3) := by decide +kernel
theorem dX5_lowest_5 : decode cX5_lowest 5 = .ok (.lstore 5, 2) := by decide +kernel
theorem dX5_lowest_7 : decode cX5_lowest 7 = .ok (.lload_n 2, 1) := by decide +kernel
theorem dX5_lowest_8 : decode cX5_lowest 8 = .ok (.lconst 0, 1) := by decide +kernel
theorem dX5_lowest_9 : decode cX5_lowest 9 = .ok (.lcmp, 1) := by decide +kernel
theorem dX5_lowest_10 : decode cX5_lowest 10 = .ok (.ifCond .ge 9, 3) := by decide +kernel
theorem dX5_lowest_13 : decode cX5_lowest 13 = .ok (.lload 5, 2) := by decide +kernel
theorem dX5_lowest_15 : decode cX5_lowest 15 = .ok (.lneg, 1) := by decide +kernel
theorem dX5_lowest_16 : decode cX5_lowest 16 = .ok (.goto 5, 3) := by decide +kernel
theorem dX5_lowest_19 : decode cX5_lowest 19 = .ok (.lload 5, 2) := by decide +kernel
theorem dX5_lowest_21 : decode cX5_lowest 21 = .ok (.lstore 5, 2) := by decide +kernel
theorem dX5_lowest_23 : decode cX5_lowest 23 = .ok (.iload 4, 2) := by decide +kernel
theorem dX5_lowest_25 : decode cX5_lowest 25 = .ok (.ifCond .ne 7, 3) := by decide +kernel
theorem dX5_lowest_28 : decode cX5_lowest 28 = .ok (.lload_n 0, 1) := by decide +kernel
theorem dX5_lowest_29 : decode cX5_lowest 29 = .ok (.goto 4, 3) := by decide +kernel
theorem dX5_lowest_32 : decode cX5_lowest 32 = .ok (.lload_n 2, 1) := by decide +kernel
theorem dX5_lowest_33 : decode cX5_lowest 33 = .ok (.lload 5, 2) := by decide +kernel
theorem dX5_lowest_35 : decode cX5_lowest 35 = .ok (.ldiv, 1) := by decide +kernel
theorem dX5_lowest_36 : decode cX5_lowest 36 = .ok (.lreturn, 1) := by decide +kernel
set_option maxRecDepth 20000 in
theorem ggX5_isPart_X5_within : GoodIn wsX5_isPart wsX5_within := goodIn_r _ [4] (by decide +kernel) (by decide +kernel)
set_option maxRecDepth 20000 in
theorem gX5_isPart_X5_within : GoodIn wsX5_isPart (va_wsS RX5 57 yX5_within wsX5_within) := goodIn_app (goodIn_of _ (by decide +kernel)) ggX5_isPart_X5_within
theorem dX5_isPart_0 : decode cX5_isPart 0 = .ok (.iload_n 0, 1) := by decide +kernel
theorem dX5_isPart_1 : decode cX5_isPart 1 = .ok (.iconst 0, 1) := by decide +kernel
theorem dX5_isPart_2 : decode cX5_isPart 2 = .ok (.iconst 1, 1) := by decide +kernel
theorem dX5_isPart_3 : decode cX5_isPart 3 = .ok (.invokestatic 57, 3) := by decide +kernel
theorem dX5_isPart_6 : decode cX5_isPart 6 = .ok (.ireturn, 1) := by decide +kernel
set_option maxRecDepth 20000 in
theorem ggX5_gainNow_X5_layRest : GoodIn wsX5_gainNow wsX5_layRest := goodIn_r _ [7, 8, 2, 9, 10, 11, 12, 6, 13, 14, 15, 16, 17, 18, 19, 20, 21, 22, 23, 24, 25, 26, 27, 28, 29, 30, 31, 32, 33, 34, 35, 36, 37, 1, 38, 39, 40, 41, 42, 43, 44, 45, 46, 47, 54, 55, 56, 57, 58, 59, 60, 61, 62, 63, 64, 65, 66, 67, 68, 69, 70, 71, 72, 73, 74, 75, 76, 77, 78, 79, 80] (by decide +kernel) (by decide +kernel)
set_option maxRecDepth 20000 in
theorem gX5_gainNow_X5_layRest : GoodIn wsX5_gainNow (wsV RX5 182 RX5 yX5_layRest wsX5_layRest) := goodIn_app (goodIn_of _ (by decide +kernel)) ggX5_gainNow_X5_layRest
set_option maxRecDepth 20000 in
theorem ggX5_gainNow_X5_lowest : GoodIn wsX5_gainNow wsX5_lowest := goodIn_r _ [50, 51, 52, 6, 53] (by decide +kernel) (by decide +kernel)
set_option maxRecDepth 20000 in
theorem gX5_gainNow_X5_lowest : GoodIn wsX5_gainNow (va_wsS RX5 185 yX5_lowest wsX5_lowest) := goodIn_app (goodIn_of _ (by decide +kernel)) ggX5_gainNow_X5_lowest
theorem dX5_gainNow_0 : decode cX5_gainNow 0 = .ok (.aload_n 0, 1) := by decide +kernel
theorem dX5_gainNow_1 : decode cX5_gainNow 1 = .ok (.iload_n 1, 1) := by decide +kernel
theorem dX5_gainNow_2 : decode cX5_gainNow 2 = .ok (.invokevirtual 182, 3) := by decide +kernel
theorem dX5_gainNow_5 : decode cX5_gainNow 5 = .ok (.aload_n 0, 1) := by decide +kernel
theorem dX5_gainNow_6 : decode cX5_gainNow 6 = .ok (.getfield 36, 3) := by decide +kernel
theorem dX5_gainNow_9 : decode cX5_gainNow 9 = .ok (.iload_n 2, 1) := by decide +kernel
theorem dX5_gainNow_10 : decode cX5_gainNow 10 = .ok (.laload, 1) := by decide +kernel
theorem dX5_gainNow_11 : decode cX5_gainNow 11 = .ok (.lneg, 1) := by decide +kernel
theorem dX5_gainNow_12 : decode cX5_gainNow 12 = .ok (.aload_n 0, 1) := by decide +kernel
theorem dX5_gainNow_13 : decode cX5_gainNow 13 = .ok (.getfield 167, 3) := by decide +kernel
theorem dX5_gainNow_16 : decode cX5_gainNow 16 = .ok (.iload_n 3, 1) := by decide +kernel
theorem dX5_gainNow_17 : decode cX5_gainNow 17 = .ok (.invokestatic 185, 3) := by decide +kernel
theorem dX5_gainNow_20 : decode cX5_gainNow 20 = .ok (.lreturn, 1) := by decide +kernel
set_option maxRecDepth 20000 in
theorem ggX5_gain_X5_isPlace : GoodIn wsX5_gain wsX5_isPlace := goodIn_r _ [8, 9, 10, 11, 7, 12, 80, 81, 82, 83, 84, 85, 86, 87, 88, 89, 90, 91, 92, 93, 94, 95, 96, 97, 98, 99, 100, 101, 102, 103, 104, 105, 106] (by decide +kernel) (by decide +kernel)
set_option maxRecDepth 20000 in
theorem gX5_gain_X5_isPlace : GoodIn wsX5_gain (wsV RX5 113 RX5 yX5_isPlace wsX5_isPlace) := goodIn_app (goodIn_of _ (by decide +kernel)) ggX5_gain_X5_isPlace
set_option maxRecDepth 20000 in
theorem ggX5_gain_X5_isPart : GoodIn wsX5_gain wsX5_isPart := goodIn_r _ [15, 10, 11, 7, 12] (by decide +kernel) (by decide +kernel)
set_option maxRecDepth 20000 in
theorem gX5_gain_X5_isPart : GoodIn wsX5_gain (va_wsS RX5 189 yX5_isPart wsX5_isPart) := goodIn_app (goodIn_of _ (by decide +kernel)) ggX5_gain_X5_isPart
set_option maxRecDepth 20000 in
theorem ggX5_gain_X5_isFull : GoodIn wsX5_gain wsX5_isFull := goodIn_r _ [19, 9, 20, 21, 22, 7, 23, 24, 25, 26, 27, 28, 29, 4, 5, 6, 8, 10, 11, 12, 30, 31, 32, 33, 34, 35, 36, 37, 38, 39, 40, 41, 42, 43, 44, 45, 46, 47, 48, 80, 81, 82, 83, 84, 85, 86, 87, 88, 89, 90, 91, 92, 93, 94, 95, 96, 97, 98, 99, 100, 101, 102, 103, 104, 105, 106] (by decide +kernel) (by decide +kernel)
set_option maxRecDepth 20000 in
theorem gX5_gain_X5_isFull : GoodIn wsX5_gain (wsV RX5 192 RX5 yX5_isFull wsX5_isFull) := goodIn_app (goodIn_of _ (by decide +kernel)) ggX5_gain_X5_isFull
set_option maxRecDepth 20000 in
theorem ggX5_gain_X5_gainNow : GoodIn wsX5_gain wsX5_gainNow := goodIn_r _ [52, 53, 54, 55, 56, 57, 7, 58, 24, 9, 25, 26, 27, 28, 29, 4, 5, 6, 8, 10, 11, 12, 30, 31, 32, 33, 34, 35, 36, 37, 38, 39, 40, 59, 60, 61, 62, 63, 64, 65, 66, 67, 68, 69, 70, 71, 72, 73, 74, 75, 76, 77, 78, 79, 80, 81, 82, 83, 84, 85, 86, 87, 88, 89, 90, 91, 92, 93, 94, 95, 96, 97, 98, 99, 100, 101, 102, 103, 104, 105, 106] (by decide +kernel) (by decide +kernel)
set_option maxRecDepth 20000 in
theorem gX5_gain_X5_gainNow : GoodIn wsX5_gain (wsV RX5 196 RX5 yX5_gainNow wsX5_gainNow) := goodIn_app (goodIn_of _ (by decide +kernel)) ggX5_gain_X5_gainNow
theorem dX5_gain_0 : decode cX5_gain 0 = .ok (.aload_n 0, 1) := by decide +kernel
theorem dX5_gain_1 : decode cX5_gain 1 = .ok (.iload_n 2, 1) := by decide +kernel
theorem dX5_gain_2 : decode cX5_gain 2 = .ok (.invokevirtual 113, 3) := by decide +kernel
theorem dX5_gain_5 : decode cX5_gain 5 = .ok (.ifCond .ne 7, 3) := by decide +kernel
theorem dX5_gain_8 : decode cX5_gain 8 = .ok (.ldc2_w 116, 3) := by decide +kernel
theorem dX5_gain_11 : decode cX5_gain 11 = .ok (.lreturn, 1) := by decide +kernel
theorem dX5_gain_12 : decode cX5_gain 12 = .ok (.iload_n 3, 1) := by decide +kernel
theorem dX5_gain_13 : decode cX5_gain 13 = .ok (.invokestatic 189, 3) := by decide +kernel
theorem dX5_gain_16 : decode cX5_gain 16 = .ok (.ifCond .ne 7, 3) := by decide +kernel
theorem dX5_gain_19 : decode cX5_gain 19 = .ok (.ldc2_w 61, 3) := by decide +kernel
theorem dX5_gain_22 : decode cX5_gain 22 = .ok (.lreturn, 1) := by decide +kernel
theorem dX5_gain_23 : decode cX5_gain 23 = .ok (.aload_n 0, 1) := by decide +kernel
theorem dX5_gain_24 : decode cX5_gain 24 = .ok (.iload_n 1, 1) := by decide +kernel
theorem dX5_gain_25 : decode cX5_gain 25 = .ok (.invokevirtual 192, 3) := by decide +kernel
theorem dX5_gain_28 : decode cX5_gain 28 = .ok (.ifCond .eq 13, 3) := by decide +kernel
theorem dX5_gain_31 : decode cX5_gain 31 = .ok (.aload_n 0, 1) := by decide +kernel
theorem dX5_gain_32 : decode cX5_gain 32 = .ok (.iload_n 1, 1) := by decide +kernel
theorem dX5_gain_33 : decode cX5_gain 33 = .ok (.iload_n 2, 1) := by decide +kernel
theorem dX5_gain_34 : decode cX5_gain 34 = .ok (.iload_n 3, 1) := by decide +kernel
theorem dX5_gain_35 : decode cX5_gain 35 = .ok (.invokevirtual 196, 3) := by decide +kernel
theorem dX5_gain_38 : decode cX5_gain 38 = .ok (.goto 6, 3) := by decide +kernel
theorem dX5_gain_41 : decode cX5_gain 41 = .ok (.ldc2_w 102, 3) := by decide +kernel
theorem dX5_gain_44 : decode cX5_gain 44 = .ok (.lreturn, 1) := by decide +kernel
set_option maxRecDepth 20000 in
theorem ggX5_afterNow_X5_layRest : GoodIn wsX5_afterNow wsX5_layRest := goodIn_r _ [9, 10, 4, 1, 11, 12, 13, 8, 14, 15, 16, 17, 18, 19, 20, 21, 22, 23, 24, 25, 26, 27, 28, 29, 30, 31, 32, 33, 34, 35, 36, 37, 38, 39, 40, 41, 42, 43, 44, 45, 46, 47, 48, 2, 55, 56, 57, 58, 59, 60, 61, 62, 63, 64, 65, 66, 67, 68, 69, 70, 71, 72, 73, 74, 75, 76, 77, 78, 79, 80, 81] (by decide +kernel) (by decide +kernel)
set_option maxRecDepth 20000 in
theorem gX5_afterNow_X5_layRest : GoodIn wsX5_afterNow (wsV RX5 182 RX5 yX5_layRest wsX5_layRest) := goodIn_app (goodIn_of _ (by decide +kernel)) ggX5_afterNow_X5_layRest
set_option maxRecDepth 20000 in
theorem ggX5_afterNow_X5_lowest : GoodIn wsX5_afterNow wsX5_lowest := goodIn_r _ [51, 52, 53, 8, 54] (by decide +kernel) (by decide +kernel)
set_option maxRecDepth 20000 in
theorem gX5_afterNow_X5_lowest : GoodIn wsX5_afterNow (va_wsS RX5 185 yX5_lowest wsX5_lowest) := goodIn_app (goodIn_of _ (by decide +kernel)) ggX5_afterNow_X5_lowest
theorem dX5_afterNow_0 : decode cX5_afterNow 0 = .ok (.aload_n 0, 1) := by decide +kernel
theorem dX5_afterNow_1 : decode cX5_afterNow 1 = .ok (.iload_n 1, 1) := by decide +kernel
theorem dX5_afterNow_2 : decode cX5_afterNow 2 = .ok (.invokevirtual 182, 3) := by decide +kernel
theorem dX5_afterNow_5 : decode cX5_afterNow 5 = .ok (.lconst 0, 1) := by decide +kernel
theorem dX5_afterNow_6 : decode cX5_afterNow 6 = .ok (.lstore 5, 2) := by decide +kernel
theorem dX5_afterNow_8 : decode cX5_afterNow 8 = .ok (.iconst 0, 1) := by decide +kernel
theorem dX5_afterNow_9 : decode cX5_afterNow 9 = .ok (.istore 7, 2) := by decide +kernel
theorem dX5_afterNow_11 : decode cX5_afterNow 11 = .ok (.iload 7, 2) := by decide +kernel
theorem dX5_afterNow_13 : decode cX5_afterNow 13 = .ok (.aload_n 0, 1) := by decide +kernel
theorem dX5_afterNow_14 : decode cX5_afterNow 14 = .ok (.getfield 104, 3) := by decide +kernel
theorem dX5_afterNow_17 : decode cX5_afterNow 17 = .ok (.if_icmp .ge 51, 3) := by decide +kernel
theorem dX5_afterNow_20 : decode cX5_afterNow 20 = .ok (.lload 5, 2) := by decide +kernel
theorem dX5_afterNow_22 : decode cX5_afterNow 22 = .ok (.aload_n 0, 1) := by decide +kernel
theorem dX5_afterNow_23 : decode cX5_afterNow 23 = .ok (.getfield 39, 3) := by decide +kernel
theorem dX5_afterNow_26 : decode cX5_afterNow 26 = .ok (.bipush 9, 2) := by decide +kernel
theorem dX5_afterNow_28 : decode cX5_afterNow 28 = .ok (.iload_n 2, 1) := by decide +kernel
theorem dX5_afterNow_29 : decode cX5_afterNow 29 = .ok (.imul, 1) := by decide +kernel
theorem dX5_afterNow_30 : decode cX5_afterNow 30 = .ok (.iload_n 1, 1) := by decide +kernel
theorem dX5_afterNow_31 : decode cX5_afterNow 31 = .ok (.ifCond .eq 12, 3) := by decide +kernel
theorem dX5_afterNow_34 : decode cX5_afterNow 34 = .ok (.iconst 3, 1) := by decide +kernel
theorem dX5_afterNow_35 : decode cX5_afterNow 35 = .ok (.iload 7, 2) := by decide +kernel
theorem dX5_afterNow_37 : decode cX5_afterNow 37 = .ok (.imul, 1) := by decide +kernel
theorem dX5_afterNow_38 : decode cX5_afterNow 38 = .ok (.iload_n 3, 1) := by decide +kernel
theorem dX5_afterNow_39 : decode cX5_afterNow 39 = .ok (.iadd, 1) := by decide +kernel
theorem dX5_afterNow_40 : decode cX5_afterNow 40 = .ok (.goto 9, 3) := by decide +kernel
theorem dX5_afterNow_43 : decode cX5_afterNow 43 = .ok (.iconst 3, 1) := by decide +kernel
theorem dX5_afterNow_44 : decode cX5_afterNow 44 = .ok (.iload_n 3, 1) := by decide +kernel
theorem dX5_afterNow_45 : decode cX5_afterNow 45 = .ok (.imul, 1) := by decide +kernel
theorem dX5_afterNow_46 : decode cX5_afterNow 46 = .ok (.iload 7, 2) := by decide +kernel
theorem dX5_afterNow_48 : decode cX5_afterNow 48 = .ok (.iadd, 1) := by decide +kernel
theorem dX5_afterNow_49 : decode cX5_afterNow 49 = .ok (.iadd, 1) := by decide +kernel
theorem dX5_afterNow_50 : decode cX5_afterNow 50 = .ok (.laload, 1) := by decide +kernel
theorem dX5_afterNow_51 : decode cX5_afterNow 51 = .ok (.aload_n 0, 1) := by decide +kernel
theorem dX5_afterNow_52 : decode cX5_afterNow 52 = .ok (.getfield 16, 3) := by decide +kernel
theorem dX5_afterNow_55 : decode cX5_afterNow 55 = .ok (.iload 7, 2) := by decide +kernel
theorem dX5_afterNow_57 : decode cX5_afterNow 57 = .ok (.laload, 1) := by decide +kernel
theorem dX5_afterNow_58 : decode cX5_afterNow 58 = .ok (.lmul, 1) := by decide +kernel
theorem dX5_afterNow_59 : decode cX5_afterNow 59 = .ok (.ladd, 1) := by decide +kernel
theorem dX5_afterNow_60 : decode cX5_afterNow 60 = .ok (.lstore 5, 2) := by decide +kernel
theorem dX5_afterNow_62 : decode cX5_afterNow 62 = .ok (.iinc 7 1, 3) := by decide +kernel
theorem dX5_afterNow_65 : decode cX5_afterNow 65 = .ok (.goto (-54), 3) := by decide +kernel
theorem dX5_afterNow_68 : decode cX5_afterNow 68 = .ok (.lload 5, 2) := by decide +kernel
theorem dX5_afterNow_70 : decode cX5_afterNow 70 = .ok (.aload_n 0, 1) := by decide +kernel
theorem dX5_afterNow_71 : decode cX5_afterNow 71 = .ok (.getfield 167, 3) := by decide +kernel
theorem dX5_afterNow_74 : decode cX5_afterNow 74 = .ok (.iload 4, 2) := by decide +kernel
theorem dX5_afterNow_76 : decode cX5_afterNow 76 = .ok (.invokestatic 185, 3) := by decide +kernel
theorem dX5_afterNow_79 : decode cX5_afterNow 79 = .ok (.lreturn, 1) := by decide +kernel
set_option maxRecDepth 20000 in
theorem ggX5_after_X5_isPlace : GoodIn wsX5_after wsX5_isPlace := goodIn_r _ [8, 9, 10, 11, 7, 12, 81, 82, 83, 84, 85, 86, 87, 88, 89, 90, 91, 92, 93, 94, 95, 96, 97, 98, 99, 100, 101, 102, 103, 104, 105, 106, 107] (by decide +kernel) (by decide +kernel)
set_option maxRecDepth 20000 in
theorem gX5_after_X5_isPlace : GoodIn wsX5_after (wsV RX5 113 RX5 yX5_isPlace wsX5_isPlace) := goodIn_app (goodIn_of _ (by decide +kernel)) ggX5_after_X5_isPlace
set_option maxRecDepth 20000 in
theorem ggX5_after_X5_within : GoodIn wsX5_after wsX5_within := goodIn_r _ [12] (by decide +kernel) (by decide +kernel)
set_option maxRecDepth 20000 in
theorem gX5_after_X5_within : GoodIn wsX5_after (va_wsS RX5 57 yX5_within wsX5_within) := goodIn_app (goodIn_of _ (by decide +kernel)) ggX5_after_X5_within
set_option maxRecDepth 20000 in
theorem ggX5_after_X5_isPart : GoodIn wsX5_after wsX5_isPart := goodIn_r _ [15, 10, 11, 7, 12] (by decide +kernel) (by decide +kernel)
set_option maxRecDepth 20000 in
theorem gX5_after_X5_isPart : GoodIn wsX5_after (va_wsS RX5 189 yX5_isPart wsX5_isPart) := goodIn_app (goodIn_of _ (by decide +kernel)) ggX5_after_X5_isPart
set_option maxRecDepth 20000 in
theorem ggX5_after_X5_isFull : GoodIn wsX5_after wsX5_isFull := goodIn_r _ [19, 9, 20, 21, 22, 7, 23, 24, 25, 26, 27, 28, 29, 4, 5, 6, 8, 10, 11, 12, 30, 31, 32, 33, 34, 35, 36, 37, 38, 39, 40, 41, 42, 43, 44, 45, 46, 47, 48, 81, 82, 83, 84, 85, 86, 87, 88, 89, 90, 91, 92, 93, 94, 95, 96, 97, 98, 99, 100, 101, 102, 103, 104, 105, 106, 107] (by decide +kernel) (by decide +kernel)
set_option maxRecDepth 20000 in
theorem gX5_after_X5_isFull : GoodIn wsX5_after (wsV RX5 192 RX5 yX5_isFull wsX5_isFull) := goodIn_app (goodIn_of _ (by decide +kernel)) ggX5_after_X5_isFull
set_option maxRecDepth 20000 in
theorem ggX5_after_X5_afterNow : GoodIn wsX5_after wsX5_afterNow := goodIn_r _ [52, 9, 53, 54, 55, 56, 57, 58, 7, 59, 24, 25, 26, 27, 28, 29, 4, 5, 6, 8, 10, 11, 12, 30, 31, 32, 33, 34, 35, 36, 37, 38, 39, 40, 60, 61, 62, 63, 64, 65, 66, 67, 68, 69, 70, 71, 72, 73, 74, 75, 76, 77, 78, 79, 80, 81, 82, 83, 84, 85, 86, 87, 88, 89, 90, 91, 92, 93, 94, 95, 96, 97, 98, 99, 100, 101, 102, 103, 104, 105, 106, 107] (by decide +kernel) (by decide +kernel)
set_option maxRecDepth 20000 in
theorem gX5_after_X5_afterNow : GoodIn wsX5_after (wsV RX5 200 RX5 yX5_afterNow wsX5_afterNow) := goodIn_app (goodIn_of _ (by decide +kernel)) ggX5_after_X5_afterNow
theorem dX5_after_0 : decode cX5_after 0 = .ok (.aload_n 0, 1) := by decide +kernel
theorem dX5_after_1 : decode cX5_after 1 = .ok (.iload_n 3, 1) := by decide +kernel
theorem dX5_after_2 : decode cX5_after 2 = .ok (.invokevirtual 113, 3) := by decide +kernel
theorem dX5_after_5 : decode cX5_after 5 = .ok (.ifCond .ne 7, 3) := by decide +kernel
theorem dX5_after_8 : decode cX5_after 8 = .ok (.ldc2_w 116, 3) := by decide +kernel
theorem dX5_after_11 : decode cX5_after 11 = .ok (.lreturn, 1) := by decide +kernel
theorem dX5_after_12 : decode cX5_after 12 = .ok (.iload_n 2, 1) := by decide +kernel
theorem dX5_after_13 : decode cX5_after 13 = .ok (.iconst 0, 1) := by decide +kernel
theorem dX5_after_14 : decode cX5_after 14 = .ok (.iconst 4, 1) := by decide +kernel
theorem dX5_after_15 : decode cX5_after 15 = .ok (.invokestatic 57, 3) := by decide +kernel
theorem dX5_after_18 : decode cX5_after 18 = .ok (.ifCond .eq 11, 3) := by decide +kernel
theorem dX5_after_21 : decode cX5_after 21 = .ok (.iload 4, 2) := by decide +kernel
theorem dX5_after_23 : decode cX5_after 23 = .ok (.invokestatic 189, 3) := by decide +kernel
theorem dX5_after_26 : decode cX5_after 26 = .ok (.ifCond .ne 7, 3) := by decide +kernel
theorem dX5_after_29 : decode cX5_after 29 = .ok (.ldc2_w 61, 3) := by decide +kernel
theorem dX5_after_32 : decode cX5_after 32 = .ok (.lreturn, 1) := by decide +kernel
theorem dX5_after_33 : decode cX5_after 33 = .ok (.aload_n 0, 1) := by decide +kernel
theorem dX5_after_34 : decode cX5_after 34 = .ok (.iload_n 1, 1) := by decide +kernel
theorem dX5_after_35 : decode cX5_after 35 = .ok (.invokevirtual 192, 3) := by decide +kernel
theorem dX5_after_38 : decode cX5_after 38 = .ok (.ifCond .eq 15, 3) := by decide +kernel
theorem dX5_after_41 : decode cX5_after 41 = .ok (.aload_n 0, 1) := by decide +kernel
theorem dX5_after_42 : decode cX5_after 42 = .ok (.iload_n 1, 1) := by decide +kernel
theorem dX5_after_43 : decode cX5_after 43 = .ok (.iload_n 2, 1) := by decide +kernel
theorem dX5_after_44 : decode cX5_after 44 = .ok (.iload_n 3, 1) := by decide +kernel
theorem dX5_after_45 : decode cX5_after 45 = .ok (.iload 4, 2) := by decide +kernel
theorem dX5_after_47 : decode cX5_after 47 = .ok (.invokevirtual 200, 3) := by decide +kernel
theorem dX5_after_50 : decode cX5_after 50 = .ok (.goto 6, 3) := by decide +kernel
theorem dX5_after_53 : decode cX5_after 53 = .ok (.ldc2_w 102, 3) := by decide +kernel
theorem dX5_after_56 : decode cX5_after 56 = .ok (.lreturn, 1) := by decide +kernel
set_option maxRecDepth 20000 in
theorem ggX5_inputNow_X5_layRest : GoodIn wsX5_inputNow wsX5_layRest := goodIn_r _ [9, 10, 4, 1, 11, 12, 13, 8, 14, 15, 16, 17, 18, 19, 20, 21, 22, 23, 24, 25, 26, 27, 28, 29, 30, 31, 32, 33, 34, 35, 36, 37, 38, 2, 39, 40, 41, 42, 43, 44, 45, 46, 47, 48, 55, 56, 57, 58, 59, 60, 61, 62, 63, 64, 65, 66, 67, 68, 69, 70, 71, 72, 73, 74, 75, 76, 77, 78, 79, 80, 81] (by decide +kernel) (by decide +kernel)
set_option maxRecDepth 20000 in
theorem gX5_inputNow_X5_layRest : GoodIn wsX5_inputNow (wsV RX5 182 RX5 yX5_layRest wsX5_layRest) := goodIn_app (goodIn_of _ (by decide +kernel)) ggX5_inputNow_X5_layRest
set_option maxRecDepth 20000 in
theorem ggX5_inputNow_X5_lowest : GoodIn wsX5_inputNow wsX5_lowest := goodIn_r _ [51, 52, 53, 8, 54] (by decide +kernel) (by decide +kernel)
set_option maxRecDepth 20000 in
theorem gX5_inputNow_X5_lowest : GoodIn wsX5_inputNow (va_wsS RX5 185 yX5_lowest wsX5_lowest) := goodIn_app (goodIn_of _ (by decide +kernel)) ggX5_inputNow_X5_lowest
theorem dX5_inputNow_0 : decode cX5_inputNow 0 = .ok (.aload_n 0, 1) := by decide +kernel
theorem dX5_inputNow_1 : decode cX5_inputNow 1 = .ok (.iconst 0, 1) := by decide +kernel
theorem dX5_inputNow_2 : decode cX5_inputNow 2 = .ok (.invokevirtual 182, 3) := by decide +kernel
theorem dX5_inputNow_5 : decode cX5_inputNow 5 = .ok (.lconst 0, 1) := by decide +kernel
theorem dX5_inputNow_6 : decode cX5_inputNow 6 = .ok (.lstore_n 3, 1) := by decide +kernel
theorem dX5_inputNow_7 : decode cX5_inputNow 7 = .ok (.iconst 0, 1) := by decide +kernel
theorem dX5_inputNow_8 : decode cX5_inputNow 8 = .ok (.istore 5, 2) := by decide +kernel
theorem dX5_inputNow_10 : decode cX5_inputNow 10 = .ok (.iload 5, 2) := by decide +kernel
theorem dX5_inputNow_12 : decode cX5_inputNow 12 = .ok (.aload_n 0, 1) := by decide +kernel
theorem dX5_inputNow_13 : decode cX5_inputNow 13 = .ok (.getfield 104, 3) := by decide +kernel
theorem dX5_inputNow_16 : decode cX5_inputNow 16 = .ok (.if_icmp .ge 31, 3) := by decide +kernel
theorem dX5_inputNow_19 : decode cX5_inputNow 19 = .ok (.lload_n 3, 1) := by decide +kernel
theorem dX5_inputNow_20 : decode cX5_inputNow 20 = .ok (.aload_n 0, 1) := by decide +kernel
theorem dX5_inputNow_21 : decode cX5_inputNow 21 = .ok (.getfield 36, 3) := by decide +kernel
theorem dX5_inputNow_24 : decode cX5_inputNow 24 = .ok (.iconst 3, 1) := by decide +kernel
theorem dX5_inputNow_25 : decode cX5_inputNow 25 = .ok (.iload_n 1, 1) := by decide +kernel
theorem dX5_inputNow_26 : decode cX5_inputNow 26 = .ok (.imul, 1) := by decide +kernel
theorem dX5_inputNow_27 : decode cX5_inputNow 27 = .ok (.iload 5, 2) := by decide +kernel
theorem dX5_inputNow_29 : decode cX5_inputNow 29 = .ok (.iadd, 1) := by decide +kernel
theorem dX5_inputNow_30 : decode cX5_inputNow 30 = .ok (.laload, 1) := by decide +kernel
theorem dX5_inputNow_31 : decode cX5_inputNow 31 = .ok (.aload_n 0, 1) := by decide +kernel
theorem dX5_inputNow_32 : decode cX5_inputNow 32 = .ok (.getfield 16, 3) := by decide +kernel
theorem dX5_inputNow_35 : decode cX5_inputNow 35 = .ok (.iload 5, 2) := by decide +kernel
theorem dX5_inputNow_37 : decode cX5_inputNow 37 = .ok (.laload, 1) := by decide +kernel
theorem dX5_inputNow_38 : decode cX5_inputNow 38 = .ok (.lmul, 1) := by decide +kernel
theorem dX5_inputNow_39 : decode cX5_inputNow 39 = .ok (.ladd, 1) := by decide +kernel
theorem dX5_inputNow_40 : decode cX5_inputNow 40 = .ok (.lstore_n 3, 1) := by decide +kernel
theorem dX5_inputNow_41 : decode cX5_inputNow 41 = .ok (.iinc 5 1, 3) := by decide +kernel
theorem dX5_inputNow_44 : decode cX5_inputNow 44 = .ok (.goto (-34), 3) := by decide +kernel
theorem dX5_inputNow_47 : decode cX5_inputNow 47 = .ok (.lload_n 3, 1) := by decide +kernel
theorem dX5_inputNow_48 : decode cX5_inputNow 48 = .ok (.aload_n 0, 1) := by decide +kernel
theorem dX5_inputNow_49 : decode cX5_inputNow 49 = .ok (.getfield 167, 3) := by decide +kernel
theorem dX5_inputNow_52 : decode cX5_inputNow 52 = .ok (.iload_n 2, 1) := by decide +kernel
theorem dX5_inputNow_53 : decode cX5_inputNow 53 = .ok (.invokestatic 185, 3) := by decide +kernel
theorem dX5_inputNow_56 : decode cX5_inputNow 56 = .ok (.lreturn, 1) := by decide +kernel
set_option maxRecDepth 20000 in
theorem ggX5_input_X5_isFull : GoodIn wsX5_input wsX5_isFull := goodIn_r _ [7, 8, 9, 10, 11, 6, 12, 13, 14, 15, 16, 17, 18, 19, 20, 21, 22, 23, 24, 25, 26, 27, 28, 29, 30, 31, 32, 33, 34, 35, 36, 37, 38, 39, 40, 41, 42, 43, 44, 80, 81, 82, 83, 84, 85, 86, 87, 88, 89, 90, 91, 92, 93, 94, 95, 96, 97, 98, 99, 100, 101, 102, 103, 104, 105, 106] (by decide +kernel) (by decide +kernel)
set_option maxRecDepth 20000 in
theorem gX5_input_X5_isFull : GoodIn wsX5_input (wsV RX5 192 RX5 yX5_isFull wsX5_isFull) := goodIn_app (goodIn_of _ (by decide +kernel)) ggX5_input_X5_isFull
set_option maxRecDepth 20000 in
theorem ggX5_input_X5_within : GoodIn wsX5_input wsX5_within := goodIn_r _ [25] (by decide +kernel) (by decide +kernel)
set_option maxRecDepth 20000 in
theorem gX5_input_X5_within : GoodIn wsX5_input (va_wsS RX5 57 yX5_within wsX5_within) := goodIn_app (goodIn_of _ (by decide +kernel)) ggX5_input_X5_within
set_option maxRecDepth 20000 in
theorem ggX5_input_X5_isPart : GoodIn wsX5_input wsX5_isPart := goodIn_r _ [47, 23, 24, 6, 25] (by decide +kernel) (by decide +kernel)
set_option maxRecDepth 20000 in
theorem gX5_input_X5_isPart : GoodIn wsX5_input (va_wsS RX5 189 yX5_isPart wsX5_isPart) := goodIn_app (goodIn_of _ (by decide +kernel)) ggX5_input_X5_isPart
set_option maxRecDepth 20000 in
theorem ggX5_input_X5_inputNow : GoodIn wsX5_input wsX5_inputNow := goodIn_r _ [51, 8, 52, 53, 54, 55, 56, 57, 6, 58, 13, 14, 15, 16, 17, 18, 19, 20, 21, 22, 23, 24, 25, 26, 27, 28, 29, 30, 31, 32, 33, 34, 35, 36, 59, 60, 61, 62, 63, 64, 65, 66, 67, 68, 69, 70, 71, 72, 73, 74, 75, 76, 77, 78, 79, 80, 81, 82, 83, 84, 85, 86, 87, 88, 89, 90, 91, 92, 93, 94, 95, 96, 97, 98, 99, 100, 101, 102, 103, 104, 105, 106] (by decide +kernel) (by decide +kernel)
set_option maxRecDepth 20000 in
theorem gX5_input_X5_inputNow : GoodIn wsX5_input (wsV RX5 204 RX5 yX5_inputNow wsX5_inputNow) := goodIn_app (goodIn_of _ (by decide +kernel)) ggX5_input_X5_inputNow
theorem dX5_input_0 : decode cX5_input 0 = .ok (.aload_n 0, 1) := by decide +kernel
theorem dX5_input_1 : decode cX5_input 1 = .ok (.iconst 0, 1) := by decide +kernel
theorem dX5_input_2 : decode cX5_input 2 = .ok (.invokevirtual 192, 3) := by decide +kernel
theorem dX5_input_5 : decode cX5_input 5 = .ok (.ifCond .ne 7, 3) := by decide +kernel
theorem dX5_input_8 : decode cX5_input 8 = .ok (.ldc2_w 102, 3) := by decide +kernel
theorem dX5_input_11 : decode cX5_input 11 = .ok (.lreturn, 1) := by decide +kernel
theorem dX5_input_12 : decode cX5_input 12 = .ok (.iload_n 1, 1) := by decide +kernel
theorem dX5_input_13 : decode cX5_input 13 = .ok (.iconst 0, 1) := by decide +kernel
theorem dX5_input_14 : decode cX5_input 14 = .ok (.iconst 4, 1) := by decide +kernel
theorem dX5_input_15 : decode cX5_input 15 = .ok (.invokestatic 57, 3) := by decide +kernel
theorem dX5_input_18 : decode cX5_input 18 = .ok (.ifCond .eq 19, 3) := by decide +kernel
theorem dX5_input_21 : decode cX5_input 21 = .ok (.iload_n 2, 1) := by decide +kernel
theorem dX5_input_22 : decode cX5_input 22 = .ok (.invokestatic 189, 3) := by decide +kernel
theorem dX5_input_25 : decode cX5_input 25 = .ok (.ifCond .eq 12, 3) := by decide +kernel
theorem dX5_input_28 : decode cX5_input 28 = .ok (.aload_n 0, 1) := by decide +kernel
theorem dX5_input_29 : decode cX5_input 29 = .ok (.iload_n 1, 1) := by decide +kernel
theorem dX5_input_30 : decode cX5_input 30 = .ok (.iload_n 2, 1) := by decide +kernel
theorem dX5_input_31 : decode cX5_input 31 = .ok (.invokevirtual 204, 3) := by decide +kernel
theorem dX5_input_34 : decode cX5_input 34 = .ok (.goto 6, 3) := by decide +kernel
theorem dX5_input_37 : decode cX5_input 37 = .ok (.ldc2_w 61, 3) := by decide +kernel
theorem dX5_input_40 : decode cX5_input 40 = .ok (.lreturn, 1) := by decide +kernel
set_option maxRecDepth 20000 in
theorem ggX5_mostNow_X5_layRest : GoodIn wsX5_mostNow wsX5_layRest := goodIn_r _ [6, 7, 8, 9, 10, 11, 12, 5, 13, 14, 15, 16, 17, 18, 19, 20, 21, 22, 23, 24, 25, 26, 27, 28, 29, 30, 31, 32, 33, 34, 35, 36, 37, 38, 39, 40, 41, 42, 43, 44, 45, 46, 47, 1, 48, 49, 50, 51, 52, 53, 54, 55, 56, 57, 58, 59, 60, 61, 62, 63, 64, 65, 66, 67, 68, 69, 70, 71, 72, 73, 74] (by decide +kernel) (by decide +kernel)
set_option maxRecDepth 20000 in
theorem gX5_mostNow_X5_layRest : GoodIn wsX5_mostNow (wsV RX5 182 RX5 yX5_layRest wsX5_layRest) := goodIn_app (goodIn_of _ (by decide +kernel)) ggX5_mostNow_X5_layRest
set_option maxRecDepth 20000 in
theorem ggX5_mostNow_X5_isPlace : GoodIn wsX5_mostNow wsX5_isPlace := goodIn_r _ [18, 9, 19, 20, 5, 21, 48, 49, 50, 51, 52, 53, 54, 55, 56, 57, 58, 59, 60, 61, 62, 63, 64, 65, 66, 67, 68, 69, 70, 71, 72, 73, 74] (by decide +kernel) (by decide +kernel)
set_option maxRecDepth 20000 in
theorem gX5_mostNow_X5_isPlace : GoodIn wsX5_mostNow (wsV RX5 113 RX5 yX5_isPlace wsX5_isPlace) := goodIn_app (goodIn_of _ (by decide +kernel)) ggX5_mostNow_X5_isPlace
theorem dX5_mostNow_0 : decode cX5_mostNow 0 = .ok (.aload_n 0, 1) := by decide +kernel
theorem dX5_mostNow_1 : decode cX5_mostNow 1 = .ok (.iload_n 1, 1) := by decide +kernel
theorem dX5_mostNow_2 : decode cX5_mostNow 2 = .ok (.invokevirtual 182, 3) := by decide +kernel
theorem dX5_mostNow_5 : decode cX5_mostNow 5 = .ok (.iconst 0, 1) := by decide +kernel
theorem dX5_mostNow_6 : decode cX5_mostNow 6 = .ok (.istore_n 2, 1) := by decide +kernel
theorem dX5_mostNow_7 : decode cX5_mostNow 7 = .ok (.iconst 0, 1) := by decide +kernel
theorem dX5_mostNow_8 : decode cX5_mostNow 8 = .ok (.istore_n 3, 1) := by decide +kernel
theorem dX5_mostNow_9 : decode cX5_mostNow 9 = .ok (.iload_n 3, 1) := by decide +kernel
theorem dX5_mostNow_10 : decode cX5_mostNow 10 = .ok (.bipush 45, 2) := by decide +kernel
theorem dX5_mostNow_12 : decode cX5_mostNow 12 = .ok (.if_icmp .ge 65, 3) := by decide +kernel
theorem dX5_mostNow_15 : decode cX5_mostNow 15 = .ok (.aload_n 0, 1) := by decide +kernel
theorem dX5_mostNow_16 : decode cX5_mostNow 16 = .ok (.iload_n 3, 1) := by decide +kernel
theorem dX5_mostNow_17 : decode cX5_mostNow 17 = .ok (.iconst 3, 1) := by decide +kernel
theorem dX5_mostNow_18 : decode cX5_mostNow 18 = .ok (.idiv, 1) := by decide +kernel
theorem dX5_mostNow_19 : decode cX5_mostNow 19 = .ok (.iconst 3, 1) := by decide +kernel
theorem dX5_mostNow_20 : decode cX5_mostNow 20 = .ok (.irem, 1) := by decide +kernel
theorem dX5_mostNow_21 : decode cX5_mostNow 21 = .ok (.invokevirtual 113, 3) := by decide +kernel
theorem dX5_mostNow_24 : decode cX5_mostNow 24 = .ok (.ifCond .eq 28, 3) := by decide +kernel
theorem dX5_mostNow_27 : decode cX5_mostNow 27 = .ok (.aload_n 0, 1) := by decide +kernel
theorem dX5_mostNow_28 : decode cX5_mostNow 28 = .ok (.iload_n 3, 1) := by decide +kernel
theorem dX5_mostNow_29 : decode cX5_mostNow 29 = .ok (.iconst 3, 1) := by decide +kernel
theorem dX5_mostNow_30 : decode cX5_mostNow 30 = .ok (.irem, 1) := by decide +kernel
theorem dX5_mostNow_31 : decode cX5_mostNow 31 = .ok (.invokevirtual 113, 3) := by decide +kernel
theorem dX5_mostNow_34 : decode cX5_mostNow 34 = .ok (.ifCond .eq 18, 3) := by decide +kernel
theorem dX5_mostNow_37 : decode cX5_mostNow 37 = .ok (.aload_n 0, 1) := by decide +kernel
theorem dX5_mostNow_38 : decode cX5_mostNow 38 = .ok (.getfield 39, 3) := by decide +kernel
theorem dX5_mostNow_41 : decode cX5_mostNow 41 = .ok (.iload_n 3, 1) := by decide +kernel
theorem dX5_mostNow_42 : decode cX5_mostNow 42 = .ok (.laload, 1) := by decide +kernel
theorem dX5_mostNow_43 : decode cX5_mostNow 43 = .ok (.lconst 0, 1) := by decide +kernel
theorem dX5_mostNow_44 : decode cX5_mostNow 44 = .ok (.lcmp, 1) := by decide +kernel
theorem dX5_mostNow_45 : decode cX5_mostNow 45 = .ok (.ifCond .eq 7, 3) := by decide +kernel
theorem dX5_mostNow_48 : decode cX5_mostNow 48 = .ok (.iconst 1, 1) := by decide +kernel
theorem dX5_mostNow_49 : decode cX5_mostNow 49 = .ok (.goto 4, 3) := by decide +kernel
theorem dX5_mostNow_52 : decode cX5_mostNow 52 = .ok (.iconst 0, 1) := by decide +kernel
theorem dX5_mostNow_53 : decode cX5_mostNow 53 = .ok (.istore 4, 2) := by decide +kernel
theorem dX5_mostNow_55 : decode cX5_mostNow 55 = .ok (.iload 4, 2) := by decide +kernel
theorem dX5_mostNow_57 : decode cX5_mostNow 57 = .ok (.ifCond .eq 12, 3) := by decide +kernel
theorem dX5_mostNow_60 : decode cX5_mostNow 60 = .ok (.iload_n 3, 1) := by decide +kernel
theorem dX5_mostNow_61 : decode cX5_mostNow 61 = .ok (.bipush 9, 2) := by decide +kernel
theorem dX5_mostNow_63 : decode cX5_mostNow 63 = .ok (.idiv, 1) := by decide +kernel
theorem dX5_mostNow_64 : decode cX5_mostNow 64 = .ok (.iconst 1, 1) := by decide +kernel
theorem dX5_mostNow_65 : decode cX5_mostNow 65 = .ok (.iadd, 1) := by decide +kernel
theorem dX5_mostNow_66 : decode cX5_mostNow 66 = .ok (.goto 4, 3) := by decide +kernel
theorem dX5_mostNow_69 : decode cX5_mostNow 69 = .ok (.iload_n 2, 1) := by decide +kernel
theorem dX5_mostNow_70 : decode cX5_mostNow 70 = .ok (.istore_n 2, 1) := by decide +kernel
theorem dX5_mostNow_71 : decode cX5_mostNow 71 = .ok (.iinc 3 1, 3) := by decide +kernel
theorem dX5_mostNow_74 : decode cX5_mostNow 74 = .ok (.goto (-65), 3) := by decide +kernel
theorem dX5_mostNow_77 : decode cX5_mostNow 77 = .ok (.iload_n 2, 1) := by decide +kernel
theorem dX5_mostNow_78 : decode cX5_mostNow 78 = .ok (.i2l, 1) := by decide +kernel
theorem dX5_mostNow_79 : decode cX5_mostNow 79 = .ok (.lreturn, 1) := by decide +kernel
set_option maxRecDepth 20000 in
theorem ggX5_most_X5_isFull : GoodIn wsX5_most wsX5_isFull := goodIn_r _ [6, 7, 8, 9, 10, 5, 11, 12, 13, 14, 15, 16, 17, 18, 19, 20, 21, 22, 23, 24, 25, 26, 27, 28, 29, 30, 31, 32, 33, 34, 35, 36, 37, 38, 39, 40, 41, 42, 43, 69, 70, 71, 72, 73, 74, 75, 76, 77, 78, 79, 80, 81, 82, 83, 84, 85, 86, 87, 88, 89, 90, 91, 92, 93, 94, 95] (by decide +kernel) (by decide +kernel)
set_option maxRecDepth 20000 in
theorem gX5_most_X5_isFull : GoodIn wsX5_most (wsV RX5 192 RX5 yX5_isFull wsX5_isFull) := goodIn_app (goodIn_of _ (by decide +kernel)) ggX5_most_X5_isFull
set_option maxRecDepth 20000 in
theorem ggX5_most_X5_mostNow : GoodIn wsX5_most wsX5_mostNow := goodIn_r _ [47, 48, 49, 50, 51, 5, 52, 12, 53, 7, 13, 14, 15, 16, 17, 18, 19, 20, 21, 22, 23, 24, 25, 26, 27, 28, 29, 30, 31, 32, 33, 34, 35, 54, 55, 56, 57, 58, 59, 60, 61, 62, 63, 64, 65, 66, 67, 68, 69, 70, 71, 72, 73, 74, 75, 76, 77, 78, 79, 80, 81, 82, 83, 84, 85, 86, 87, 88, 89, 90, 91, 92, 93, 94, 95] (by decide +kernel) (by decide +kernel)
set_option maxRecDepth 20000 in
theorem gX5_most_X5_mostNow : GoodIn wsX5_most (wsV RX5 208 RX5 yX5_mostNow wsX5_mostNow) := goodIn_app (goodIn_of _ (by decide +kernel)) ggX5_most_X5_mostNow
theorem dX5_most_0 : decode cX5_most 0 = .ok (.aload_n 0, 1) := by decide +kernel
theorem dX5_most_1 : decode cX5_most 1 = .ok (.iload_n 1, 1) := by decide +kernel
theorem dX5_most_2 : decode cX5_most 2 = .ok (.invokevirtual 192, 3) := by decide +kernel
theorem dX5_most_5 : decode cX5_most 5 = .ok (.ifCond .eq 11, 3) := by decide +kernel
theorem dX5_most_8 : decode cX5_most 8 = .ok (.aload_n 0, 1) := by decide +kernel
theorem dX5_most_9 : decode cX5_most 9 = .ok (.iload_n 1, 1) := by decide +kernel
theorem dX5_most_10 : decode cX5_most 10 = .ok (.invokevirtual 208, 3) := by decide +kernel
theorem dX5_most_13 : decode cX5_most 13 = .ok (.goto 6, 3) := by decide +kernel
theorem dX5_most_16 : decode cX5_most 16 = .ok (.ldc2_w 102, 3) := by decide +kernel
theorem dX5_most_19 : decode cX5_most 19 = .ok (.lreturn, 1) := by decide +kernel
set_option maxRecDepth 20000 in
theorem ggX5_goInputs_X5_layTried : GoodIn wsX5_goInputs wsX5_layTried := goodIn_r _ [7, 8, 1, 9, 16, 17, 18, 19, 20, 21, 22, 23, 24, 25, 26, 27, 28, 29, 30, 31, 32, 33, 34, 35, 36, 37, 38, 39, 40, 41, 42] (by decide +kernel) (by decide +kernel)
set_option maxRecDepth 20000 in
theorem gX5_goInputs_X5_layTried : GoodIn wsX5_goInputs (wsV RX5 118 RX5 yX5_layTried wsX5_layTried) := goodIn_app (goodIn_of _ (by decide +kernel)) ggX5_goInputs_X5_layTried
set_option maxRecDepth 20000 in
theorem ggX5_goInputs_X5_goOn : GoodIn wsX5_goInputs wsX5_goOn := goodIn_r _ [13, 8, 14, 15, 16, 17, 18, 19, 20, 21, 22, 23, 24, 25, 26, 27, 28, 29, 30, 31, 32, 33, 34, 35, 36, 37, 38, 39, 40, 41, 42] (by decide +kernel) (by decide +kernel)
set_option maxRecDepth 20000 in
theorem gX5_goInputs_X5_goOn : GoodIn wsX5_goInputs (wsV RX5 121 RX5 yX5_goOn wsX5_goOn) := goodIn_app (goodIn_of _ (by decide +kernel)) ggX5_goInputs_X5_goOn
theorem dX5_goInputs_0 : decode cX5_goInputs 0 = .ok (.aload_n 0, 1) := by decide +kernel
theorem dX5_goInputs_1 : decode cX5_goInputs 1 = .ok (.invokevirtual 118, 3) := by decide +kernel
theorem dX5_goInputs_4 : decode cX5_goInputs 4 = .ok (.iconst 0, 1) := by decide +kernel
theorem dX5_goInputs_5 : decode cX5_goInputs 5 = .ok (.istore_n 2, 1) := by decide +kernel
theorem dX5_goInputs_6 : decode cX5_goInputs 6 = .ok (.iload_n 2, 1) := by decide +kernel
theorem dX5_goInputs_7 : decode cX5_goInputs 7 = .ok (.iload_n 1, 1) := by decide +kernel
theorem dX5_goInputs_8 : decode cX5_goInputs 8 = .ok (.if_icmp .ge 24, 3) := by decide +kernel
theorem dX5_goInputs_11 : decode cX5_goInputs 11 = .ok (.aload_n 0, 1) := by decide +kernel
theorem dX5_goInputs_12 : decode cX5_goInputs 12 = .ok (.aload_n 0, 1) := by decide +kernel
theorem dX5_goInputs_13 : decode cX5_goInputs 13 = .ok (.getfield 30, 3) := by decide +kernel
theorem dX5_goInputs_16 : decode cX5_goInputs 16 = .ok (.aload_n 0, 1) := by decide +kernel
theorem dX5_goInputs_17 : decode cX5_goInputs 17 = .ok (.getfield 48, 3) := by decide +kernel
theorem dX5_goInputs_20 : decode cX5_goInputs 20 = .ok (.iload_n 2, 1) := by decide +kernel
theorem dX5_goInputs_21 : decode cX5_goInputs 21 = .ok (.iaload, 1) := by decide +kernel
theorem dX5_goInputs_22 : decode cX5_goInputs 22 = .ok (.i2l, 1) := by decide +kernel
theorem dX5_goInputs_23 : decode cX5_goInputs 23 = .ok (.invokevirtual 121, 3) := by decide +kernel
theorem dX5_goInputs_26 : decode cX5_goInputs 26 = .ok (.iinc 2 1, 3) := by decide +kernel
theorem dX5_goInputs_29 : decode cX5_goInputs 29 = .ok (.goto (-23), 3) := by decide +kernel
theorem dX5_goInputs_32 : decode cX5_goInputs 32 = .ok (.return_, 1) := by decide +kernel
theorem dX5_isRest_0 : decode cX5_isRest 0 = .ok (.iconst 1, 1) := by decide +kernel
theorem dX5_isRest_1 : decode cX5_isRest 1 = .ok (.istore_n 1, 1) := by decide +kernel
theorem dX5_isRest_2 : decode cX5_isRest 2 = .ok (.iconst 0, 1) := by decide +kernel
theorem dX5_isRest_3 : decode cX5_isRest 3 = .ok (.istore_n 2, 1) := by decide +kernel
theorem dX5_isRest_4 : decode cX5_isRest 4 = .ok (.iload_n 2, 1) := by decide +kernel
theorem dX5_isRest_5 : decode cX5_isRest 5 = .ok (.aload_n 0, 1) := by decide +kernel
theorem dX5_isRest_6 : decode cX5_isRest 6 = .ok (.getfield 104, 3) := by decide +kernel
theorem dX5_isRest_9 : decode cX5_isRest 9 = .ok (.if_icmp .ge 30, 3) := by decide +kernel
theorem dX5_isRest_12 : decode cX5_isRest 12 = .ok (.iload_n 1, 1) := by decide +kernel
theorem dX5_isRest_13 : decode cX5_isRest 13 = .ok (.ifCond .eq 18, 3) := by decide +kernel
theorem dX5_isRest_16 : decode cX5_isRest 16 = .ok (.aload_n 0, 1) := by decide +kernel
theorem dX5_isRest_17 : decode cX5_isRest 17 = .ok (.getfield 30, 3) := by decide +kernel
theorem dX5_isRest_20 : decode cX5_isRest 20 = .ok (.iload_n 2, 1) := by decide +kernel
theorem dX5_isRest_21 : decode cX5_isRest 21 = .ok (.laload, 1) := by decide +kernel
theorem dX5_isRest_22 : decode cX5_isRest 22 = .ok (.lconst 0, 1) := by decide +kernel
theorem dX5_isRest_23 : decode cX5_isRest 23 = .ok (.lcmp, 1) := by decide +kernel
theorem dX5_isRest_24 : decode cX5_isRest 24 = .ok (.ifCond .ne 7, 3) := by decide +kernel
theorem dX5_isRest_27 : decode cX5_isRest 27 = .ok (.iconst 1, 1) := by decide +kernel
theorem dX5_isRest_28 : decode cX5_isRest 28 = .ok (.goto 4, 3) := by decide +kernel
theorem dX5_isRest_31 : decode cX5_isRest 31 = .ok (.iconst 0, 1) := by decide +kernel
theorem dX5_isRest_32 : decode cX5_isRest 32 = .ok (.istore_n 1, 1) := by decide +kernel
theorem dX5_isRest_33 : decode cX5_isRest 33 = .ok (.iinc 2 1, 3) := by decide +kernel
theorem dX5_isRest_36 : decode cX5_isRest 36 = .ok (.goto (-32), 3) := by decide +kernel
theorem dX5_isRest_39 : decode cX5_isRest 39 = .ok (.iload_n 1, 1) := by decide +kernel
theorem dX5_isRest_40 : decode cX5_isRest 40 = .ok (.ireturn, 1) := by decide +kernel
set_option maxRecDepth 20000 in
theorem ggX5_findLast_X5_layAsked : GoodIn wsX5_findLast wsX5_layAsked := goodIn_r _ [9, 1, 2, 10, 11, 12, 13, 14, 15, 8, 16, 17, 18, 19, 40, 41, 42, 43, 44, 45, 46, 47, 48, 49, 50, 51, 52, 53, 54, 55, 56, 57, 58, 59, 60, 61, 62, 63, 64, 65, 66] (by decide +kernel) (by decide +kernel)
set_option maxRecDepth 20000 in
theorem gX5_findLast_X5_layAsked : GoodIn wsX5_findLast (wsV RX5 212 RX5 yX5_layAsked wsX5_layAsked) := goodIn_app (goodIn_of _ (by decide +kernel)) ggX5_findLast_X5_layAsked
set_option maxRecDepth 20000 in
theorem ggX5_findLast_X5_determinant : GoodIn wsX5_findLast wsX5_determinant := goodIn_r _ [16, 17, 18, 8, 19] (by decide +kernel) (by decide +kernel)
set_option maxRecDepth 20000 in
theorem gX5_findLast_X5_determinant : GoodIn wsX5_findLast (wsV RX5 148 RX5 yX5_determinant wsX5_determinant) := goodIn_app (goodIn_of _ (by decide +kernel)) ggX5_findLast_X5_determinant
set_option maxRecDepth 20000 in
theorem ggX5_findLast_X5_goInputs : GoodIn wsX5_findLast wsX5_goInputs := goodIn_r _ [23, 24, 4, 25, 26, 27, 8, 28, 10, 29, 30, 31, 32, 33, 34, 35, 40, 41, 42, 43, 44, 45, 46, 47, 48, 49, 50, 51, 52, 53, 54, 55, 56, 57, 58, 59, 60, 61, 62, 63, 64, 65, 66] (by decide +kernel) (by decide +kernel)
set_option maxRecDepth 20000 in
theorem gX5_findLast_X5_goInputs : GoodIn wsX5_findLast (wsV RX5 216 RX5 yX5_goInputs wsX5_goInputs) := goodIn_app (goodIn_of _ (by decide +kernel)) ggX5_findLast_X5_goInputs
set_option maxRecDepth 20000 in
theorem ggX5_findLast_X5_isRest : GoodIn wsX5_findLast wsX5_isRest := goodIn_r _ [39, 10, 24, 40, 41, 42, 43, 44, 45, 46, 47, 48, 49, 50, 51, 52, 53, 54, 55, 56, 57, 58, 59, 60, 61, 62, 63, 64, 65, 66] (by decide +kernel) (by decide +kernel)
set_option maxRecDepth 20000 in
theorem gX5_findLast_X5_isRest : GoodIn wsX5_findLast (wsV RX5 219 RX5 yX5_isRest wsX5_isRest) := goodIn_app (goodIn_of _ (by decide +kernel)) ggX5_findLast_X5_isRest
theorem dX5_findLast_0 : decode cX5_findLast 0 = .ok (.iconst 0, 1) := by decide +kernel
theorem dX5_findLast_1 : decode cX5_findLast 1 = .ok (.istore_n 3, 1) := by decide +kernel
theorem dX5_findLast_2 : decode cX5_findLast 2 = .ok (.iload_n 3, 1) := by decide +kernel
theorem dX5_findLast_3 : decode cX5_findLast 3 = .ok (.bipush 8, 2) := by decide +kernel
theorem dX5_findLast_5 : decode cX5_findLast 5 = .ok (.if_icmp .ge 131, 3) := by decide +kernel
theorem dX5_findLast_8 : decode cX5_findLast 8 = .ok (.aload_n 0, 1) := by decide +kernel
theorem dX5_findLast_9 : decode cX5_findLast 9 = .ok (.iload_n 3, 1) := by decide +kernel
theorem dX5_findLast_10 : decode cX5_findLast 10 = .ok (.iload_n 2, 1) := by decide +kernel
theorem dX5_findLast_11 : decode cX5_findLast 11 = .ok (.invokevirtual 212, 3) := by decide +kernel
theorem dX5_findLast_14 : decode cX5_findLast 14 = .ok (.ifCond .eq 116, 3) := by decide +kernel
theorem dX5_findLast_17 : decode cX5_findLast 17 = .ok (.aload_n 0, 1) := by decide +kernel
theorem dX5_findLast_18 : decode cX5_findLast 18 = .ok (.aload_n 0, 1) := by decide +kernel
theorem dX5_findLast_19 : decode cX5_findLast 19 = .ok (.getfield 51, 3) := by decide +kernel
theorem dX5_findLast_22 : decode cX5_findLast 22 = .ok (.iconst 3, 1) := by decide +kernel
theorem dX5_findLast_23 : decode cX5_findLast 23 = .ok (.aload_n 0, 1) := by decide +kernel
theorem dX5_findLast_24 : decode cX5_findLast 24 = .ok (.getfield 51, 3) := by decide +kernel
theorem dX5_findLast_27 : decode cX5_findLast 27 = .ok (.invokevirtual 148, 3) := by decide +kernel
theorem dX5_findLast_30 : decode cX5_findLast 30 = .ok (.lstore 4, 2) := by decide +kernel
theorem dX5_findLast_32 : decode cX5_findLast 32 = .ok (.iconst 0, 1) := by decide +kernel
theorem dX5_findLast_33 : decode cX5_findLast 33 = .ok (.istore 6, 2) := by decide +kernel
theorem dX5_findLast_35 : decode cX5_findLast 35 = .ok (.iload 6, 2) := by decide +kernel
theorem dX5_findLast_37 : decode cX5_findLast 37 = .ok (.iload_n 2, 1) := by decide +kernel
theorem dX5_findLast_38 : decode cX5_findLast 38 = .ok (.if_icmp .ge 80, 3) := by decide +kernel
theorem dX5_findLast_41 : decode cX5_findLast 41 = .ok (.aload_n 0, 1) := by decide +kernel
theorem dX5_findLast_42 : decode cX5_findLast 42 = .ok (.aload_n 0, 1) := by decide +kernel
theorem dX5_findLast_43 : decode cX5_findLast 43 = .ok (.getfield 51, 3) := by decide +kernel
theorem dX5_findLast_46 : decode cX5_findLast 46 = .ok (.iload 6, 2) := by decide +kernel
theorem dX5_findLast_48 : decode cX5_findLast 48 = .ok (.aload_n 0, 1) := by decide +kernel
theorem dX5_findLast_49 : decode cX5_findLast 49 = .ok (.getfield 54, 3) := by decide +kernel
theorem dX5_findLast_52 : decode cX5_findLast 52 = .ok (.invokevirtual 148, 3) := by decide +kernel
theorem dX5_findLast_55 : decode cX5_findLast 55 = .ok (.lstore 7, 2) := by decide +kernel
theorem dX5_findLast_57 : decode cX5_findLast 57 = .ok (.lload 7, 2) := by decide +kernel
theorem dX5_findLast_59 : decode cX5_findLast 59 = .ok (.lload 4, 2) := by decide +kernel
theorem dX5_findLast_61 : decode cX5_findLast 61 = .ok (.ldiv, 1) := by decide +kernel
theorem dX5_findLast_62 : decode cX5_findLast 62 = .ok (.lstore 9, 2) := by decide +kernel
theorem dX5_findLast_64 : decode cX5_findLast 64 = .ok (.lload 9, 2) := by decide +kernel
theorem dX5_findLast_66 : decode cX5_findLast 66 = .ok (.lload 4, 2) := by decide +kernel
theorem dX5_findLast_68 : decode cX5_findLast 68 = .ok (.lmul, 1) := by decide +kernel
theorem dX5_findLast_69 : decode cX5_findLast 69 = .ok (.lload 7, 2) := by decide +kernel
theorem dX5_findLast_71 : decode cX5_findLast 71 = .ok (.lcmp, 1) := by decide +kernel
theorem dX5_findLast_72 : decode cX5_findLast 72 = .ok (.ifCond .ne 26, 3) := by decide +kernel
theorem dX5_findLast_75 : decode cX5_findLast 75 = .ok (.lload 9, 2) := by decide +kernel
theorem dX5_findLast_77 : decode cX5_findLast 77 = .ok (.aload_n 0, 1) := by decide +kernel
theorem dX5_findLast_78 : decode cX5_findLast 78 = .ok (.getfield 20, 3) := by decide +kernel
theorem dX5_findLast_81 : decode cX5_findLast 81 = .ok (.ineg, 1) := by decide +kernel
theorem dX5_findLast_82 : decode cX5_findLast 82 = .ok (.i2l, 1) := by decide +kernel
theorem dX5_findLast_83 : decode cX5_findLast 83 = .ok (.lcmp, 1) := by decide +kernel
theorem dX5_findLast_84 : decode cX5_findLast 84 = .ok (.ifCond .lt 14, 3) := by decide +kernel
theorem dX5_findLast_87 : decode cX5_findLast 87 = .ok (.lload 9, 2) := by decide +kernel
theorem dX5_findLast_89 : decode cX5_findLast 89 = .ok (.aload_n 0, 1) := by decide +kernel
theorem dX5_findLast_90 : decode cX5_findLast 90 = .ok (.getfield 20, 3) := by decide +kernel
theorem dX5_findLast_93 : decode cX5_findLast 93 = .ok (.i2l, 1) := by decide +kernel
theorem dX5_findLast_94 : decode cX5_findLast 94 = .ok (.lcmp, 1) := by decide +kernel
theorem dX5_findLast_95 : decode cX5_findLast 95 = .ok (.ifCond .le 5, 3) := by decide +kernel
theorem dX5_findLast_98 : decode cX5_findLast 98 = .ok (.iconst 0, 1) := by decide +kernel
theorem dX5_findLast_99 : decode cX5_findLast 99 = .ok (.ireturn, 1) := by decide +kernel
theorem dX5_findLast_100 : decode cX5_findLast 100 = .ok (.aload_n 0, 1) := by decide +kernel
theorem dX5_findLast_101 : decode cX5_findLast 101 = .ok (.getfield 48, 3) := by decide +kernel
theorem dX5_findLast_104 : decode cX5_findLast 104 = .ok (.iload_n 1, 1) := by decide +kernel
theorem dX5_findLast_105 : decode cX5_findLast 105 = .ok (.iload 6, 2) := by decide +kernel
theorem dX5_findLast_107 : decode cX5_findLast 107 = .ok (.iadd, 1) := by decide +kernel
theorem dX5_findLast_108 : decode cX5_findLast 108 = .ok (.lload 9, 2) := by decide +kernel
theorem dX5_findLast_110 : decode cX5_findLast 110 = .ok (.l2i, 1) := by decide +kernel
theorem dX5_findLast_111 : decode cX5_findLast 111 = .ok (.iastore, 1) := by decide +kernel
theorem dX5_findLast_112 : decode cX5_findLast 112 = .ok (.iinc 6 1, 3) := by decide +kernel
theorem dX5_findLast_115 : decode cX5_findLast 115 = .ok (.goto (-80), 3) := by decide +kernel
theorem dX5_findLast_118 : decode cX5_findLast 118 = .ok (.aload_n 0, 1) := by decide +kernel
theorem dX5_findLast_119 : decode cX5_findLast 119 = .ok (.iload_n 1, 1) := by decide +kernel
theorem dX5_findLast_120 : decode cX5_findLast 120 = .ok (.iload_n 2, 1) := by decide +kernel
theorem dX5_findLast_121 : decode cX5_findLast 121 = .ok (.iadd, 1) := by decide +kernel
theorem dX5_findLast_122 : decode cX5_findLast 122 = .ok (.invokevirtual 216, 3) := by decide +kernel
theorem dX5_findLast_125 : decode cX5_findLast 125 = .ok (.aload_n 0, 1) := by decide +kernel
theorem dX5_findLast_126 : decode cX5_findLast 126 = .ok (.invokevirtual 219, 3) := by decide +kernel
theorem dX5_findLast_129 : decode cX5_findLast 129 = .ok (.ireturn, 1) := by decide +kernel
theorem dX5_findLast_130 : decode cX5_findLast 130 = .ok (.iinc 3 1, 3) := by decide +kernel
theorem dX5_findLast_133 : decode cX5_findLast 133 = .ok (.goto (-131), 3) := by decide +kernel
theorem dX5_findLast_136 : decode cX5_findLast 136 = .ok (.iconst 0, 1) := by decide +kernel
theorem dX5_findLast_137 : decode cX5_findLast 137 = .ok (.ireturn, 1) := by decide +kernel
set_option maxRecDepth 20000 in
theorem ggX5_layAsked_X5_determinant : GoodIn wsX5_layAsked wsX5_determinant := goodIn_r _ [10, 11, 12, 9, 13] (by decide +kernel) (by decide +kernel)
set_option maxRecDepth 20000 in
theorem gX5_layAsked_X5_determinant : GoodIn wsX5_layAsked (wsV RX5 148 RX5 yX5_determinant wsX5_determinant) := goodIn_app (goodIn_of _ (by decide +kernel)) ggX5_layAsked_X5_determinant
theorem dX5_layAsked_0 : decode cX5_layAsked 0 = .ok (.iconst 0, 1) := by decide +kernel
theorem dX5_layAsked_1 : decode cX5_layAsked 1 = .ok (.istore_n 3, 1) := by decide +kernel
theorem dX5_layAsked_2 : decode cX5_layAsked 2 = .ok (.iconst 0, 1) := by decide +kernel
theorem dX5_layAsked_3 : decode cX5_layAsked 3 = .ok (.istore 4, 2) := by decide +kernel
theorem dX5_layAsked_5 : decode cX5_layAsked 5 = .ok (.iload 4, 2) := by decide +kernel
theorem dX5_layAsked_7 : decode cX5_layAsked 7 = .ok (.bipush 9, 2) := by decide +kernel
theorem dX5_layAsked_9 : decode cX5_layAsked 9 = .ok (.if_icmp .ge 32, 3) := by decide +kernel
theorem dX5_layAsked_12 : decode cX5_layAsked 12 = .ok (.aload_n 0, 1) := by decide +kernel
theorem dX5_layAsked_13 : decode cX5_layAsked 13 = .ok (.getfield 51, 3) := by decide +kernel
theorem dX5_layAsked_16 : decode cX5_layAsked 16 = .ok (.iload 4, 2) := by decide +kernel
theorem dX5_layAsked_18 : decode cX5_layAsked 18 = .ok (.iload 4, 2) := by decide +kernel
theorem dX5_layAsked_20 : decode cX5_layAsked 20 = .ok (.iconst 3, 1) := by decide +kernel
theorem dX5_layAsked_21 : decode cX5_layAsked 21 = .ok (.idiv, 1) := by decide +kernel
theorem dX5_layAsked_22 : decode cX5_layAsked 22 = .ok (.iload 4, 2) := by decide +kernel
theorem dX5_layAsked_24 : decode cX5_layAsked 24 = .ok (.iconst 3, 1) := by decide +kernel
theorem dX5_layAsked_25 : decode cX5_layAsked 25 = .ok (.irem, 1) := by decide +kernel
theorem dX5_layAsked_26 : decode cX5_layAsked 26 = .ok (.if_icmp .ne 7, 3) := by decide +kernel
theorem dX5_layAsked_29 : decode cX5_layAsked 29 = .ok (.lconst 1, 1) := by decide +kernel
theorem dX5_layAsked_30 : decode cX5_layAsked 30 = .ok (.goto 4, 3) := by decide +kernel
theorem dX5_layAsked_33 : decode cX5_layAsked 33 = .ok (.lconst 0, 1) := by decide +kernel
theorem dX5_layAsked_34 : decode cX5_layAsked 34 = .ok (.lastore, 1) := by decide +kernel
theorem dX5_layAsked_35 : decode cX5_layAsked 35 = .ok (.iinc 4 1, 3) := by decide +kernel
theorem dX5_layAsked_38 : decode cX5_layAsked 38 = .ok (.goto (-33), 3) := by decide +kernel
theorem dX5_layAsked_41 : decode cX5_layAsked 41 = .ok (.iconst 0, 1) := by decide +kernel
theorem dX5_layAsked_42 : decode cX5_layAsked 42 = .ok (.istore 4, 2) := by decide +kernel
theorem dX5_layAsked_44 : decode cX5_layAsked 44 = .ok (.iload 4, 2) := by decide +kernel
theorem dX5_layAsked_46 : decode cX5_layAsked 46 = .ok (.iconst 3, 1) := by decide +kernel
theorem dX5_layAsked_47 : decode cX5_layAsked 47 = .ok (.if_icmp .ge 17, 3) := by decide +kernel
theorem dX5_layAsked_50 : decode cX5_layAsked 50 = .ok (.aload_n 0, 1) := by decide +kernel
theorem dX5_layAsked_51 : decode cX5_layAsked 51 = .ok (.getfield 54, 3) := by decide +kernel
theorem dX5_layAsked_54 : decode cX5_layAsked 54 = .ok (.iload 4, 2) := by decide +kernel
theorem dX5_layAsked_56 : decode cX5_layAsked 56 = .ok (.lconst 0, 1) := by decide +kernel
theorem dX5_layAsked_57 : decode cX5_layAsked 57 = .ok (.lastore, 1) := by decide +kernel
theorem dX5_layAsked_58 : decode cX5_layAsked 58 = .ok (.iinc 4 1, 3) := by decide +kernel
theorem dX5_layAsked_61 : decode cX5_layAsked 61 = .ok (.goto (-17), 3) := by decide +kernel
theorem dX5_layAsked_64 : decode cX5_layAsked 64 = .ok (.iconst 0, 1) := by decide +kernel
theorem dX5_layAsked_65 : decode cX5_layAsked 65 = .ok (.istore 4, 2) := by decide +kernel
theorem dX5_layAsked_67 : decode cX5_layAsked 67 = .ok (.iload 4, 2) := by decide +kernel
theorem dX5_layAsked_69 : decode cX5_layAsked 69 = .ok (.aload_n 0, 1) := by decide +kernel
theorem dX5_layAsked_70 : decode cX5_layAsked 70 = .ok (.getfield 104, 3) := by decide +kernel
theorem dX5_layAsked_73 : decode cX5_layAsked 73 = .ok (.if_icmp .ge 83, 3) := by decide +kernel
theorem dX5_layAsked_76 : decode cX5_layAsked 76 = .ok (.iload_n 1, 1) := by decide +kernel
theorem dX5_layAsked_77 : decode cX5_layAsked 77 = .ok (.iload 4, 2) := by decide +kernel
theorem dX5_layAsked_79 : decode cX5_layAsked 79 = .ok (.ishr, 1) := by decide +kernel
theorem dX5_layAsked_80 : decode cX5_layAsked 80 = .ok (.iconst 1, 1) := by decide +kernel
theorem dX5_layAsked_81 : decode cX5_layAsked 81 = .ok (.iand, 1) := by decide +kernel
theorem dX5_layAsked_82 : decode cX5_layAsked 82 = .ok (.iconst 1, 1) := by decide +kernel
theorem dX5_layAsked_83 : decode cX5_layAsked 83 = .ok (.if_icmp .ne 67, 3) := by decide +kernel
theorem dX5_layAsked_86 : decode cX5_layAsked 86 = .ok (.iload_n 3, 1) := by decide +kernel
theorem dX5_layAsked_87 : decode cX5_layAsked 87 = .ok (.iload_n 2, 1) := by decide +kernel
theorem dX5_layAsked_88 : decode cX5_layAsked 88 = .ok (.if_icmp .ge 62, 3) := by decide +kernel
theorem dX5_layAsked_91 : decode cX5_layAsked 91 = .ok (.iconst 0, 1) := by decide +kernel
theorem dX5_layAsked_92 : decode cX5_layAsked 92 = .ok (.istore 5, 2) := by decide +kernel
theorem dX5_layAsked_94 : decode cX5_layAsked 94 = .ok (.iload 5, 2) := by decide +kernel
theorem dX5_layAsked_96 : decode cX5_layAsked 96 = .ok (.iload_n 2, 1) := by decide +kernel
theorem dX5_layAsked_97 : decode cX5_layAsked 97 = .ok (.if_icmp .ge 36, 3) := by decide +kernel
theorem dX5_layAsked_100 : decode cX5_layAsked 100 = .ok (.aload_n 0, 1) := by decide +kernel
theorem dX5_layAsked_101 : decode cX5_layAsked 101 = .ok (.getfield 51, 3) := by decide +kernel
theorem dX5_layAsked_104 : decode cX5_layAsked 104 = .ok (.iconst 3, 1) := by decide +kernel
theorem dX5_layAsked_105 : decode cX5_layAsked 105 = .ok (.iload 5, 2) := by decide +kernel
theorem dX5_layAsked_107 : decode cX5_layAsked 107 = .ok (.imul, 1) := by decide +kernel
theorem dX5_layAsked_108 : decode cX5_layAsked 108 = .ok (.iload_n 3, 1) := by decide +kernel
theorem dX5_layAsked_109 : decode cX5_layAsked 109 = .ok (.iadd, 1) := by decide +kernel
theorem dX5_layAsked_110 : decode cX5_layAsked 110 = .ok (.aload_n 0, 1) := by decide +kernel
