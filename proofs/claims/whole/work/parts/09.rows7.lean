theorem dX5_layAsked_111 : decode cX5_layAsked 111 = .ok (.getfield 33, 3) := by decide +kernel
theorem dX5_layAsked_114 : decode cX5_layAsked 114 = .ok (.iconst 3, 1) := by decide +kernel
theorem dX5_layAsked_115 : decode cX5_layAsked 115 = .ok (.iload_n 2, 1) := by decide +kernel
theorem dX5_layAsked_116 : decode cX5_layAsked 116 = .ok (.iconst 1, 1) := by decide +kernel
theorem dX5_layAsked_117 : decode cX5_layAsked 117 = .ok (.isub, 1) := by decide +kernel
theorem dX5_layAsked_118 : decode cX5_layAsked 118 = .ok (.iload 5, 2) := by decide +kernel
theorem dX5_layAsked_120 : decode cX5_layAsked 120 = .ok (.isub, 1) := by decide +kernel
theorem dX5_layAsked_121 : decode cX5_layAsked 121 = .ok (.imul, 1) := by decide +kernel
theorem dX5_layAsked_122 : decode cX5_layAsked 122 = .ok (.iload 4, 2) := by decide +kernel
theorem dX5_layAsked_124 : decode cX5_layAsked 124 = .ok (.iadd, 1) := by decide +kernel
theorem dX5_layAsked_125 : decode cX5_layAsked 125 = .ok (.laload, 1) := by decide +kernel
theorem dX5_layAsked_126 : decode cX5_layAsked 126 = .ok (.lastore, 1) := by decide +kernel
theorem dX5_layAsked_127 : decode cX5_layAsked 127 = .ok (.iinc 5 1, 3) := by decide +kernel
theorem dX5_layAsked_130 : decode cX5_layAsked 130 = .ok (.goto (-36), 3) := by decide +kernel
theorem dX5_layAsked_133 : decode cX5_layAsked 133 = .ok (.aload_n 0, 1) := by decide +kernel
theorem dX5_layAsked_134 : decode cX5_layAsked 134 = .ok (.getfield 54, 3) := by decide +kernel
theorem dX5_layAsked_137 : decode cX5_layAsked 137 = .ok (.iload_n 3, 1) := by decide +kernel
theorem dX5_layAsked_138 : decode cX5_layAsked 138 = .ok (.aload_n 0, 1) := by decide +kernel
theorem dX5_layAsked_139 : decode cX5_layAsked 139 = .ok (.getfield 42, 3) := by decide +kernel
theorem dX5_layAsked_142 : decode cX5_layAsked 142 = .ok (.iload 4, 2) := by decide +kernel
theorem dX5_layAsked_144 : decode cX5_layAsked 144 = .ok (.laload, 1) := by decide +kernel
theorem dX5_layAsked_145 : decode cX5_layAsked 145 = .ok (.lneg, 1) := by decide +kernel
theorem dX5_layAsked_146 : decode cX5_layAsked 146 = .ok (.lastore, 1) := by decide +kernel
theorem dX5_layAsked_147 : decode cX5_layAsked 147 = .ok (.iinc 3 1, 3) := by decide +kernel
theorem dX5_layAsked_150 : decode cX5_layAsked 150 = .ok (.iinc 4 1, 3) := by decide +kernel
theorem dX5_layAsked_153 : decode cX5_layAsked 153 = .ok (.goto (-86), 3) := by decide +kernel
theorem dX5_layAsked_156 : decode cX5_layAsked 156 = .ok (.iload_n 3, 1) := by decide +kernel
theorem dX5_layAsked_157 : decode cX5_layAsked 157 = .ok (.iload_n 2, 1) := by decide +kernel
theorem dX5_layAsked_158 : decode cX5_layAsked 158 = .ok (.if_icmp .ne 25, 3) := by decide +kernel
theorem dX5_layAsked_161 : decode cX5_layAsked 161 = .ok (.aload_n 0, 1) := by decide +kernel
theorem dX5_layAsked_162 : decode cX5_layAsked 162 = .ok (.aload_n 0, 1) := by decide +kernel
theorem dX5_layAsked_163 : decode cX5_layAsked 163 = .ok (.getfield 51, 3) := by decide +kernel
theorem dX5_layAsked_166 : decode cX5_layAsked 166 = .ok (.iconst 3, 1) := by decide +kernel
theorem dX5_layAsked_167 : decode cX5_layAsked 167 = .ok (.aload_n 0, 1) := by decide +kernel
theorem dX5_layAsked_168 : decode cX5_layAsked 168 = .ok (.getfield 51, 3) := by decide +kernel
theorem dX5_layAsked_171 : decode cX5_layAsked 171 = .ok (.invokevirtual 148, 3) := by decide +kernel
theorem dX5_layAsked_174 : decode cX5_layAsked 174 = .ok (.lconst 0, 1) := by decide +kernel
theorem dX5_layAsked_175 : decode cX5_layAsked 175 = .ok (.lcmp, 1) := by decide +kernel
theorem dX5_layAsked_176 : decode cX5_layAsked 176 = .ok (.ifCond .eq 7, 3) := by decide +kernel
theorem dX5_layAsked_179 : decode cX5_layAsked 179 = .ok (.iconst 1, 1) := by decide +kernel
theorem dX5_layAsked_180 : decode cX5_layAsked 180 = .ok (.goto 4, 3) := by decide +kernel
theorem dX5_layAsked_183 : decode cX5_layAsked 183 = .ok (.iconst 0, 1) := by decide +kernel
theorem dX5_layAsked_184 : decode cX5_layAsked 184 = .ok (.ireturn, 1) := by decide +kernel
set_option maxRecDepth 20000 in
theorem ggX5_tryFirst_X5_goInputs : GoodIn wsX5_tryFirst wsX5_goInputs := goodIn_r _ [8, 3, 9, 10, 11, 12, 7, 13, 1, 14, 15, 16, 17, 18, 19, 20, 44, 45, 46, 47, 48, 49, 50, 51, 52, 53, 54, 55, 56, 57, 58, 59, 60, 61, 62, 63, 64, 65, 66, 67, 68, 69, 70] (by decide +kernel) (by decide +kernel)
set_option maxRecDepth 20000 in
theorem gX5_tryFirst_X5_goInputs : GoodIn wsX5_tryFirst (wsV RX5 216 RX5 yX5_goInputs wsX5_goInputs) := goodIn_app (goodIn_of _ (by decide +kernel)) ggX5_tryFirst_X5_goInputs
set_option maxRecDepth 20000 in
theorem ggX5_tryFirst_X5_goOn : GoodIn wsX5_tryFirst wsX5_goOn := goodIn_r _ [18, 1, 19, 20, 44, 45, 46, 47, 48, 49, 50, 51, 52, 53, 54, 55, 56, 57, 58, 59, 60, 61, 62, 63, 64, 65, 66, 67, 68, 69, 70] (by decide +kernel) (by decide +kernel)
set_option maxRecDepth 20000 in
theorem gX5_tryFirst_X5_goOn : GoodIn wsX5_tryFirst (wsV RX5 121 RX5 yX5_goOn wsX5_goOn) := goodIn_app (goodIn_of _ (by decide +kernel)) ggX5_tryFirst_X5_goOn
set_option maxRecDepth 20000 in
theorem ggX5_tryFirst_X5_isRest : GoodIn wsX5_tryFirst wsX5_isRest := goodIn_r _ [24, 1, 3, 44, 45, 46, 47, 48, 49, 50, 51, 52, 53, 54, 55, 56, 57, 58, 59, 60, 61, 62, 63, 64, 65, 66, 67, 68, 69, 70] (by decide +kernel) (by decide +kernel)
set_option maxRecDepth 20000 in
theorem gX5_tryFirst_X5_isRest : GoodIn wsX5_tryFirst (wsV RX5 219 RX5 yX5_isRest wsX5_isRest) := goodIn_app (goodIn_of _ (by decide +kernel)) ggX5_tryFirst_X5_isRest
set_option maxRecDepth 20000 in
theorem ggX5_tryFirst_X5_findLast : GoodIn wsX5_tryFirst wsX5_findLast := goodIn_r _ [28, 29, 30, 31, 9, 32, 33, 34, 7, 35, 1, 36, 2, 37, 38, 39, 40, 41, 42, 43, 4, 5, 6, 8, 3, 10, 11, 12, 13, 14, 15, 16, 17, 18, 19, 20, 21, 22, 23, 24, 44, 45, 46, 47, 48, 49, 50, 51, 52, 53, 54, 55, 56, 57, 58, 59, 60, 61, 62, 63, 64, 65, 66, 67, 68, 69, 70] (by decide +kernel) (by decide +kernel)
set_option maxRecDepth 20000 in
theorem gX5_tryFirst_X5_findLast : GoodIn wsX5_tryFirst (wsV RX5 222 RX5 yX5_findLast wsX5_findLast) := goodIn_app (goodIn_of _ (by decide +kernel)) ggX5_tryFirst_X5_findLast
theorem dX5_tryFirst_0 : decode cX5_tryFirst 0 = .ok (.iload_n 1, 1) := by decide +kernel
theorem dX5_tryFirst_1 : decode cX5_tryFirst 1 = .ok (.iload_n 2, 1) := by decide +kernel
theorem dX5_tryFirst_2 : decode cX5_tryFirst 2 = .ok (.isub, 1) := by decide +kernel
theorem dX5_tryFirst_3 : decode cX5_tryFirst 3 = .ok (.istore_n 3, 1) := by decide +kernel
theorem dX5_tryFirst_4 : decode cX5_tryFirst 4 = .ok (.aload_n 0, 1) := by decide +kernel
theorem dX5_tryFirst_5 : decode cX5_tryFirst 5 = .ok (.iload_n 3, 1) := by decide +kernel
theorem dX5_tryFirst_6 : decode cX5_tryFirst 6 = .ok (.invokevirtual 216, 3) := by decide +kernel
theorem dX5_tryFirst_9 : decode cX5_tryFirst 9 = .ok (.iconst 0, 1) := by decide +kernel
theorem dX5_tryFirst_10 : decode cX5_tryFirst 10 = .ok (.istore 4, 2) := by decide +kernel
theorem dX5_tryFirst_12 : decode cX5_tryFirst 12 = .ok (.iload 4, 2) := by decide +kernel
theorem dX5_tryFirst_14 : decode cX5_tryFirst 14 = .ok (.aload_n 0, 1) := by decide +kernel
theorem dX5_tryFirst_15 : decode cX5_tryFirst 15 = .ok (.getfield 104, 3) := by decide +kernel
theorem dX5_tryFirst_18 : decode cX5_tryFirst 18 = .ok (.if_icmp .ge 23, 3) := by decide +kernel
theorem dX5_tryFirst_21 : decode cX5_tryFirst 21 = .ok (.aload_n 0, 1) := by decide +kernel
theorem dX5_tryFirst_22 : decode cX5_tryFirst 22 = .ok (.getfield 42, 3) := by decide +kernel
theorem dX5_tryFirst_25 : decode cX5_tryFirst 25 = .ok (.iload 4, 2) := by decide +kernel
theorem dX5_tryFirst_27 : decode cX5_tryFirst 27 = .ok (.aload_n 0, 1) := by decide +kernel
theorem dX5_tryFirst_28 : decode cX5_tryFirst 28 = .ok (.getfield 30, 3) := by decide +kernel
theorem dX5_tryFirst_31 : decode cX5_tryFirst 31 = .ok (.iload 4, 2) := by decide +kernel
theorem dX5_tryFirst_33 : decode cX5_tryFirst 33 = .ok (.laload, 1) := by decide +kernel
theorem dX5_tryFirst_34 : decode cX5_tryFirst 34 = .ok (.lastore, 1) := by decide +kernel
theorem dX5_tryFirst_35 : decode cX5_tryFirst 35 = .ok (.iinc 4 1, 3) := by decide +kernel
theorem dX5_tryFirst_38 : decode cX5_tryFirst 38 = .ok (.goto (-26), 3) := by decide +kernel
theorem dX5_tryFirst_41 : decode cX5_tryFirst 41 = .ok (.iconst 0, 1) := by decide +kernel
theorem dX5_tryFirst_42 : decode cX5_tryFirst 42 = .ok (.istore 4, 2) := by decide +kernel
theorem dX5_tryFirst_44 : decode cX5_tryFirst 44 = .ok (.iload 4, 2) := by decide +kernel
theorem dX5_tryFirst_46 : decode cX5_tryFirst 46 = .ok (.iload_n 2, 1) := by decide +kernel
theorem dX5_tryFirst_47 : decode cX5_tryFirst 47 = .ok (.if_icmp .ge 18, 3) := by decide +kernel
theorem dX5_tryFirst_50 : decode cX5_tryFirst 50 = .ok (.aload_n 0, 1) := by decide +kernel
theorem dX5_tryFirst_51 : decode cX5_tryFirst 51 = .ok (.aload_n 0, 1) := by decide +kernel
theorem dX5_tryFirst_52 : decode cX5_tryFirst 52 = .ok (.getfield 42, 3) := by decide +kernel
theorem dX5_tryFirst_55 : decode cX5_tryFirst 55 = .ok (.lconst 0, 1) := by decide +kernel
theorem dX5_tryFirst_56 : decode cX5_tryFirst 56 = .ok (.invokevirtual 121, 3) := by decide +kernel
theorem dX5_tryFirst_59 : decode cX5_tryFirst 59 = .ok (.iinc 4 1, 3) := by decide +kernel
theorem dX5_tryFirst_62 : decode cX5_tryFirst 62 = .ok (.goto (-18), 3) := by decide +kernel
theorem dX5_tryFirst_65 : decode cX5_tryFirst 65 = .ok (.iload_n 2, 1) := by decide +kernel
theorem dX5_tryFirst_66 : decode cX5_tryFirst 66 = .ok (.ifCond .ne 8, 3) := by decide +kernel
theorem dX5_tryFirst_69 : decode cX5_tryFirst 69 = .ok (.aload_n 0, 1) := by decide +kernel
theorem dX5_tryFirst_70 : decode cX5_tryFirst 70 = .ok (.invokevirtual 219, 3) := by decide +kernel
theorem dX5_tryFirst_73 : decode cX5_tryFirst 73 = .ok (.ireturn, 1) := by decide +kernel
theorem dX5_tryFirst_74 : decode cX5_tryFirst 74 = .ok (.aload_n 0, 1) := by decide +kernel
theorem dX5_tryFirst_75 : decode cX5_tryFirst 75 = .ok (.iload_n 3, 1) := by decide +kernel
theorem dX5_tryFirst_76 : decode cX5_tryFirst 76 = .ok (.iload_n 2, 1) := by decide +kernel
theorem dX5_tryFirst_77 : decode cX5_tryFirst 77 = .ok (.invokevirtual 222, 3) := by decide +kernel
theorem dX5_tryFirst_80 : decode cX5_tryFirst 80 = .ok (.ireturn, 1) := by decide +kernel
theorem dX5_goesOn_0 : decode cX5_goesOn 0 = .ok (.iload_n 1, 1) := by decide +kernel
theorem dX5_goesOn_1 : decode cX5_goesOn 1 = .ok (.iconst 1, 1) := by decide +kernel
theorem dX5_goesOn_2 : decode cX5_goesOn 2 = .ok (.isub, 1) := by decide +kernel
theorem dX5_goesOn_3 : decode cX5_goesOn 3 = .ok (.istore_n 2, 1) := by decide +kernel
theorem dX5_goesOn_4 : decode cX5_goesOn 4 = .ok (.iload_n 2, 1) := by decide +kernel
theorem dX5_goesOn_5 : decode cX5_goesOn 5 = .ok (.ifCond .lt 33, 3) := by decide +kernel
theorem dX5_goesOn_8 : decode cX5_goesOn 8 = .ok (.aload_n 0, 1) := by decide +kernel
theorem dX5_goesOn_9 : decode cX5_goesOn 9 = .ok (.getfield 48, 3) := by decide +kernel
theorem dX5_goesOn_12 : decode cX5_goesOn 12 = .ok (.iload_n 2, 1) := by decide +kernel
theorem dX5_goesOn_13 : decode cX5_goesOn 13 = .ok (.iaload, 1) := by decide +kernel
theorem dX5_goesOn_14 : decode cX5_goesOn 14 = .ok (.aload_n 0, 1) := by decide +kernel
theorem dX5_goesOn_15 : decode cX5_goesOn 15 = .ok (.getfield 20, 3) := by decide +kernel
theorem dX5_goesOn_18 : decode cX5_goesOn 18 = .ok (.if_icmp .ne 20, 3) := by decide +kernel
theorem dX5_goesOn_21 : decode cX5_goesOn 21 = .ok (.aload_n 0, 1) := by decide +kernel
theorem dX5_goesOn_22 : decode cX5_goesOn 22 = .ok (.getfield 48, 3) := by decide +kernel
theorem dX5_goesOn_25 : decode cX5_goesOn 25 = .ok (.iload_n 2, 1) := by decide +kernel
theorem dX5_goesOn_26 : decode cX5_goesOn 26 = .ok (.aload_n 0, 1) := by decide +kernel
theorem dX5_goesOn_27 : decode cX5_goesOn 27 = .ok (.getfield 20, 3) := by decide +kernel
theorem dX5_goesOn_30 : decode cX5_goesOn 30 = .ok (.ineg, 1) := by decide +kernel
theorem dX5_goesOn_31 : decode cX5_goesOn 31 = .ok (.iastore, 1) := by decide +kernel
theorem dX5_goesOn_32 : decode cX5_goesOn 32 = .ok (.iinc 2 (-1), 3) := by decide +kernel
theorem dX5_goesOn_35 : decode cX5_goesOn 35 = .ok (.goto (-31), 3) := by decide +kernel
theorem dX5_goesOn_38 : decode cX5_goesOn 38 = .ok (.iload_n 2, 1) := by decide +kernel
theorem dX5_goesOn_39 : decode cX5_goesOn 39 = .ok (.ifCond .lt 13, 3) := by decide +kernel
theorem dX5_goesOn_42 : decode cX5_goesOn 42 = .ok (.aload_n 0, 1) := by decide +kernel
theorem dX5_goesOn_43 : decode cX5_goesOn 43 = .ok (.getfield 48, 3) := by decide +kernel
theorem dX5_goesOn_46 : decode cX5_goesOn 46 = .ok (.iload_n 2, 1) := by decide +kernel
theorem dX5_goesOn_47 : decode cX5_goesOn 47 = .ok (.dup2, 1) := by decide +kernel
theorem dX5_goesOn_48 : decode cX5_goesOn 48 = .ok (.iaload, 1) := by decide +kernel
theorem dX5_goesOn_49 : decode cX5_goesOn 49 = .ok (.iconst 1, 1) := by decide +kernel
theorem dX5_goesOn_50 : decode cX5_goesOn 50 = .ok (.iadd, 1) := by decide +kernel
theorem dX5_goesOn_51 : decode cX5_goesOn 51 = .ok (.iastore, 1) := by decide +kernel
theorem dX5_goesOn_52 : decode cX5_goesOn 52 = .ok (.iload_n 2, 1) := by decide +kernel
theorem dX5_goesOn_53 : decode cX5_goesOn 53 = .ok (.ifCond .lt 7, 3) := by decide +kernel
theorem dX5_goesOn_56 : decode cX5_goesOn 56 = .ok (.iconst 1, 1) := by decide +kernel
theorem dX5_goesOn_57 : decode cX5_goesOn 57 = .ok (.goto 4, 3) := by decide +kernel
theorem dX5_goesOn_60 : decode cX5_goesOn 60 = .ok (.iconst 0, 1) := by decide +kernel
theorem dX5_goesOn_61 : decode cX5_goesOn 61 = .ok (.ireturn, 1) := by decide +kernel
set_option maxRecDepth 20000 in
theorem ggX5_findPlan_X5_tryFirst : GoodIn wsX5_findPlan wsX5_tryFirst := goodIn_r _ [7, 8, 9, 10, 11, 12, 13, 6, 14, 1, 15, 16, 17, 18, 19, 20, 21, 22, 23, 24, 25, 26, 27, 28, 29, 30, 31, 32, 33, 34, 35, 2, 36, 37, 38, 39, 40, 41, 42, 43, 44, 45, 46, 47, 52, 53, 54, 55, 56, 57, 58, 59, 60, 61, 62, 63, 64, 65, 66, 67, 68, 69, 70, 71, 72, 73, 74, 75, 76, 77, 78] (by decide +kernel) (by decide +kernel)
set_option maxRecDepth 20000 in
theorem gX5_findPlan_X5_tryFirst : GoodIn wsX5_findPlan (wsV RX5 225 RX5 yX5_tryFirst wsX5_tryFirst) := goodIn_app (goodIn_of _ (by decide +kernel)) ggX5_findPlan_X5_tryFirst
set_option maxRecDepth 20000 in
theorem ggX5_findPlan_X5_goesOn : GoodIn wsX5_findPlan wsX5_goesOn := goodIn_r _ [51, 1, 2, 52, 53, 54, 55, 56, 57, 58, 59, 60, 61, 62, 63, 64, 65, 66, 67, 68, 69, 70, 71, 72, 73, 74, 75, 76, 77, 78] (by decide +kernel) (by decide +kernel)
set_option maxRecDepth 20000 in
theorem gX5_findPlan_X5_goesOn : GoodIn wsX5_findPlan (wsV RX5 228 RX5 yX5_goesOn wsX5_goesOn) := goodIn_app (goodIn_of _ (by decide +kernel)) ggX5_findPlan_X5_goesOn
theorem dX5_findPlan_0 : decode cX5_findPlan 0 = .ok (.iload_n 1, 1) := by decide +kernel
theorem dX5_findPlan_1 : decode cX5_findPlan 1 = .ok (.iload_n 2, 1) := by decide +kernel
theorem dX5_findPlan_2 : decode cX5_findPlan 2 = .ok (.if_icmp .ge 7, 3) := by decide +kernel
theorem dX5_findPlan_5 : decode cX5_findPlan 5 = .ok (.iload_n 1, 1) := by decide +kernel
theorem dX5_findPlan_6 : decode cX5_findPlan 6 = .ok (.goto 4, 3) := by decide +kernel
theorem dX5_findPlan_9 : decode cX5_findPlan 9 = .ok (.iload_n 2, 1) := by decide +kernel
theorem dX5_findPlan_10 : decode cX5_findPlan 10 = .ok (.istore_n 3, 1) := by decide +kernel
theorem dX5_findPlan_11 : decode cX5_findPlan 11 = .ok (.iconst 0, 1) := by decide +kernel
theorem dX5_findPlan_12 : decode cX5_findPlan 12 = .ok (.istore 4, 2) := by decide +kernel
theorem dX5_findPlan_14 : decode cX5_findPlan 14 = .ok (.iload 4, 2) := by decide +kernel
theorem dX5_findPlan_16 : decode cX5_findPlan 16 = .ok (.iload_n 1, 1) := by decide +kernel
theorem dX5_findPlan_17 : decode cX5_findPlan 17 = .ok (.if_icmp .ge 21, 3) := by decide +kernel
theorem dX5_findPlan_20 : decode cX5_findPlan 20 = .ok (.aload_n 0, 1) := by decide +kernel
theorem dX5_findPlan_21 : decode cX5_findPlan 21 = .ok (.getfield 48, 3) := by decide +kernel
theorem dX5_findPlan_24 : decode cX5_findPlan 24 = .ok (.iload 4, 2) := by decide +kernel
theorem dX5_findPlan_26 : decode cX5_findPlan 26 = .ok (.aload_n 0, 1) := by decide +kernel
theorem dX5_findPlan_27 : decode cX5_findPlan 27 = .ok (.getfield 20, 3) := by decide +kernel
theorem dX5_findPlan_30 : decode cX5_findPlan 30 = .ok (.ineg, 1) := by decide +kernel
theorem dX5_findPlan_31 : decode cX5_findPlan 31 = .ok (.iastore, 1) := by decide +kernel
theorem dX5_findPlan_32 : decode cX5_findPlan 32 = .ok (.iinc 4 1, 3) := by decide +kernel
theorem dX5_findPlan_35 : decode cX5_findPlan 35 = .ok (.goto (-21), 3) := by decide +kernel
theorem dX5_findPlan_38 : decode cX5_findPlan 38 = .ok (.iconst 1, 1) := by decide +kernel
theorem dX5_findPlan_39 : decode cX5_findPlan 39 = .ok (.istore 4, 2) := by decide +kernel
theorem dX5_findPlan_41 : decode cX5_findPlan 41 = .ok (.iload 4, 2) := by decide +kernel
theorem dX5_findPlan_43 : decode cX5_findPlan 43 = .ok (.ifCond .eq 26, 3) := by decide +kernel
theorem dX5_findPlan_46 : decode cX5_findPlan 46 = .ok (.aload_n 0, 1) := by decide +kernel
theorem dX5_findPlan_47 : decode cX5_findPlan 47 = .ok (.iload_n 1, 1) := by decide +kernel
theorem dX5_findPlan_48 : decode cX5_findPlan 48 = .ok (.iload_n 3, 1) := by decide +kernel
theorem dX5_findPlan_49 : decode cX5_findPlan 49 = .ok (.invokevirtual 225, 3) := by decide +kernel
theorem dX5_findPlan_52 : decode cX5_findPlan 52 = .ok (.ifCond .eq 5, 3) := by decide +kernel
theorem dX5_findPlan_55 : decode cX5_findPlan 55 = .ok (.iconst 1, 1) := by decide +kernel
theorem dX5_findPlan_56 : decode cX5_findPlan 56 = .ok (.ireturn, 1) := by decide +kernel
theorem dX5_findPlan_57 : decode cX5_findPlan 57 = .ok (.aload_n 0, 1) := by decide +kernel
theorem dX5_findPlan_58 : decode cX5_findPlan 58 = .ok (.iload_n 1, 1) := by decide +kernel
theorem dX5_findPlan_59 : decode cX5_findPlan 59 = .ok (.iload_n 3, 1) := by decide +kernel
theorem dX5_findPlan_60 : decode cX5_findPlan 60 = .ok (.isub, 1) := by decide +kernel
theorem dX5_findPlan_61 : decode cX5_findPlan 61 = .ok (.invokevirtual 228, 3) := by decide +kernel
theorem dX5_findPlan_64 : decode cX5_findPlan 64 = .ok (.istore 4, 2) := by decide +kernel
theorem dX5_findPlan_66 : decode cX5_findPlan 66 = .ok (.goto (-25), 3) := by decide +kernel
theorem dX5_findPlan_69 : decode cX5_findPlan 69 = .ok (.iconst 0, 1) := by decide +kernel
theorem dX5_findPlan_70 : decode cX5_findPlan 70 = .ok (.ireturn, 1) := by decide +kernel
set_option maxRecDepth 20000 in
theorem ggX5_layPlan_X5_rankNow : GoodIn wsX5_layPlan wsX5_rankNow := goodIn_r _ [8, 9, 10, 11, 12, 13, 7, 14, 15, 16, 17, 18, 19, 20, 21, 22, 23, 24, 25, 26, 27, 28, 29, 30, 31, 32, 33, 34, 35, 36, 37, 38, 39, 40, 41, 85, 86, 87, 88, 89, 90, 91, 92, 93, 94, 95, 96, 97, 98, 99, 100, 101, 102, 103, 104, 105, 106, 107, 108, 109, 110, 111] (by decide +kernel) (by decide +kernel)
set_option maxRecDepth 20000 in
theorem gX5_layPlan_X5_rankNow : GoodIn wsX5_layPlan (wsV RX5 159 RX5 yX5_rankNow wsX5_rankNow) := goodIn_app (goodIn_of _ (by decide +kernel)) ggX5_layPlan_X5_rankNow
set_option maxRecDepth 20000 in
theorem ggX5_layPlan_X5_findPlan : GoodIn wsX5_layPlan wsX5_findPlan := goodIn_r _ [45, 3, 46, 47, 48, 49, 7, 50, 9, 51, 52, 53, 54, 55, 56, 57, 58, 59, 60, 61, 62, 63, 64, 65, 66, 15, 67, 68, 69, 70, 71, 72, 73, 74, 75, 76, 77, 78, 79, 80, 10, 27, 28, 29, 30, 31, 32, 33, 81, 82, 83, 84, 85, 86, 87, 88, 89, 90, 91, 92, 93, 94, 95, 96, 97, 98, 99, 100, 101, 102, 103, 104, 105, 106, 107, 108, 109, 110, 111] (by decide +kernel) (by decide +kernel)
set_option maxRecDepth 20000 in
theorem gX5_layPlan_X5_findPlan : GoodIn wsX5_layPlan (wsV RX5 234 RX5 yX5_findPlan wsX5_findPlan) := goodIn_app (goodIn_of _ (by decide +kernel)) ggX5_layPlan_X5_findPlan
theorem dX5_layPlan_0 : decode cX5_layPlan 0 = .ok (.aload_n 0, 1) := by decide +kernel
theorem dX5_layPlan_1 : decode cX5_layPlan 1 = .ok (.iconst 0, 1) := by decide +kernel
theorem dX5_layPlan_2 : decode cX5_layPlan 2 = .ok (.invokevirtual 159, 3) := by decide +kernel
theorem dX5_layPlan_5 : decode cX5_layPlan 5 = .ok (.istore_n 1, 1) := by decide +kernel
theorem dX5_layPlan_6 : decode cX5_layPlan 6 = .ok (.aload_n 0, 1) := by decide +kernel
theorem dX5_layPlan_7 : decode cX5_layPlan 7 = .ok (.iconst (-1), 1) := by decide +kernel
theorem dX5_layPlan_8 : decode cX5_layPlan 8 = .ok (.putfield 231, 3) := by decide +kernel
theorem dX5_layPlan_11 : decode cX5_layPlan 11 = .ok (.iconst 0, 1) := by decide +kernel
theorem dX5_layPlan_12 : decode cX5_layPlan 12 = .ok (.istore_n 2, 1) := by decide +kernel
theorem dX5_layPlan_13 : decode cX5_layPlan 13 = .ok (.iload_n 2, 1) := by decide +kernel
theorem dX5_layPlan_14 : decode cX5_layPlan 14 = .ok (.iload_n 1, 1) := by decide +kernel
theorem dX5_layPlan_15 : decode cX5_layPlan 15 = .ok (.iconst 3, 1) := by decide +kernel
theorem dX5_layPlan_16 : decode cX5_layPlan 16 = .ok (.iadd, 1) := by decide +kernel
theorem dX5_layPlan_17 : decode cX5_layPlan 17 = .ok (.if_icmp .gt 37, 3) := by decide +kernel
theorem dX5_layPlan_20 : decode cX5_layPlan 20 = .ok (.aload_n 0, 1) := by decide +kernel
theorem dX5_layPlan_21 : decode cX5_layPlan 21 = .ok (.getfield 231, 3) := by decide +kernel
theorem dX5_layPlan_24 : decode cX5_layPlan 24 = .ok (.ifCond .ge 30, 3) := by decide +kernel
theorem dX5_layPlan_27 : decode cX5_layPlan 27 = .ok (.aload_n 0, 1) := by decide +kernel
theorem dX5_layPlan_28 : decode cX5_layPlan 28 = .ok (.aload_n 0, 1) := by decide +kernel
theorem dX5_layPlan_29 : decode cX5_layPlan 29 = .ok (.iload_n 2, 1) := by decide +kernel
theorem dX5_layPlan_30 : decode cX5_layPlan 30 = .ok (.iload_n 1, 1) := by decide +kernel
theorem dX5_layPlan_31 : decode cX5_layPlan 31 = .ok (.invokevirtual 234, 3) := by decide +kernel
theorem dX5_layPlan_34 : decode cX5_layPlan 34 = .ok (.ifCond .eq 7, 3) := by decide +kernel
theorem dX5_layPlan_37 : decode cX5_layPlan 37 = .ok (.iload_n 2, 1) := by decide +kernel
theorem dX5_layPlan_38 : decode cX5_layPlan 38 = .ok (.goto 7, 3) := by decide +kernel
theorem dX5_layPlan_41 : decode cX5_layPlan 41 = .ok (.aload_n 0, 1) := by decide +kernel
theorem dX5_layPlan_42 : decode cX5_layPlan 42 = .ok (.getfield 231, 3) := by decide +kernel
theorem dX5_layPlan_45 : decode cX5_layPlan 45 = .ok (.putfield 231, 3) := by decide +kernel
theorem dX5_layPlan_48 : decode cX5_layPlan 48 = .ok (.iinc 2 1, 3) := by decide +kernel
theorem dX5_layPlan_51 : decode cX5_layPlan 51 = .ok (.goto (-38), 3) := by decide +kernel
theorem dX5_layPlan_54 : decode cX5_layPlan 54 = .ok (.iconst 0, 1) := by decide +kernel
theorem dX5_layPlan_55 : decode cX5_layPlan 55 = .ok (.istore_n 2, 1) := by decide +kernel
theorem dX5_layPlan_56 : decode cX5_layPlan 56 = .ok (.iload_n 2, 1) := by decide +kernel
theorem dX5_layPlan_57 : decode cX5_layPlan 57 = .ok (.aload_n 0, 1) := by decide +kernel
theorem dX5_layPlan_58 : decode cX5_layPlan 58 = .ok (.getfield 231, 3) := by decide +kernel
theorem dX5_layPlan_61 : decode cX5_layPlan 61 = .ok (.if_icmp .ge 21, 3) := by decide +kernel
theorem dX5_layPlan_64 : decode cX5_layPlan 64 = .ok (.aload_n 0, 1) := by decide +kernel
theorem dX5_layPlan_65 : decode cX5_layPlan 65 = .ok (.getfield 45, 3) := by decide +kernel
theorem dX5_layPlan_68 : decode cX5_layPlan 68 = .ok (.iload_n 2, 1) := by decide +kernel
theorem dX5_layPlan_69 : decode cX5_layPlan 69 = .ok (.aload_n 0, 1) := by decide +kernel
theorem dX5_layPlan_70 : decode cX5_layPlan 70 = .ok (.getfield 48, 3) := by decide +kernel
theorem dX5_layPlan_73 : decode cX5_layPlan 73 = .ok (.iload_n 2, 1) := by decide +kernel
theorem dX5_layPlan_74 : decode cX5_layPlan 74 = .ok (.iaload, 1) := by decide +kernel
theorem dX5_layPlan_75 : decode cX5_layPlan 75 = .ok (.iastore, 1) := by decide +kernel
theorem dX5_layPlan_76 : decode cX5_layPlan 76 = .ok (.iinc 2 1, 3) := by decide +kernel
theorem dX5_layPlan_79 : decode cX5_layPlan 79 = .ok (.goto (-23), 3) := by decide +kernel
theorem dX5_layPlan_82 : decode cX5_layPlan 82 = .ok (.return_, 1) := by decide +kernel
theorem dX5_planNow_0 : decode cX5_planNow 0 = .ok (.iload_n 1, 1) := by decide +kernel
theorem dX5_planNow_1 : decode cX5_planNow 1 = .ok (.ifCond .ne 22, 3) := by decide +kernel
theorem dX5_planNow_4 : decode cX5_planNow 4 = .ok (.aload_n 0, 1) := by decide +kernel
theorem dX5_planNow_5 : decode cX5_planNow 5 = .ok (.getfield 231, 3) := by decide +kernel
theorem dX5_planNow_8 : decode cX5_planNow 8 = .ok (.ifCond .ge 9, 3) := by decide +kernel
theorem dX5_planNow_11 : decode cX5_planNow 11 = .ok (.ldc2_w 237, 3) := by decide +kernel
theorem dX5_planNow_14 : decode cX5_planNow 14 = .ok (.goto 8, 3) := by decide +kernel
theorem dX5_planNow_17 : decode cX5_planNow 17 = .ok (.aload_n 0, 1) := by decide +kernel
theorem dX5_planNow_18 : decode cX5_planNow 18 = .ok (.getfield 231, 3) := by decide +kernel
theorem dX5_planNow_21 : decode cX5_planNow 21 = .ok (.i2l, 1) := by decide +kernel
theorem dX5_planNow_22 : decode cX5_planNow 22 = .ok (.lreturn, 1) := by decide +kernel
theorem dX5_planNow_23 : decode cX5_planNow 23 = .ok (.iload_n 1, 1) := by decide +kernel
theorem dX5_planNow_24 : decode cX5_planNow 24 = .ok (.bipush 10, 2) := by decide +kernel
theorem dX5_planNow_26 : decode cX5_planNow 26 = .ok (.isub, 1) := by decide +kernel
theorem dX5_planNow_27 : decode cX5_planNow 27 = .ok (.aload_n 0, 1) := by decide +kernel
theorem dX5_planNow_28 : decode cX5_planNow 28 = .ok (.getfield 231, 3) := by decide +kernel
theorem dX5_planNow_31 : decode cX5_planNow 31 = .ok (.if_icmp .ge 16, 3) := by decide +kernel
theorem dX5_planNow_34 : decode cX5_planNow 34 = .ok (.aload_n 0, 1) := by decide +kernel
theorem dX5_planNow_35 : decode cX5_planNow 35 = .ok (.getfield 45, 3) := by decide +kernel
theorem dX5_planNow_38 : decode cX5_planNow 38 = .ok (.iload_n 1, 1) := by decide +kernel
theorem dX5_planNow_39 : decode cX5_planNow 39 = .ok (.bipush 10, 2) := by decide +kernel
theorem dX5_planNow_41 : decode cX5_planNow 41 = .ok (.isub, 1) := by decide +kernel
theorem dX5_planNow_42 : decode cX5_planNow 42 = .ok (.iaload, 1) := by decide +kernel
theorem dX5_planNow_43 : decode cX5_planNow 43 = .ok (.i2l, 1) := by decide +kernel
theorem dX5_planNow_44 : decode cX5_planNow 44 = .ok (.goto 6, 3) := by decide +kernel
theorem dX5_planNow_47 : decode cX5_planNow 47 = .ok (.ldc2_w 237, 3) := by decide +kernel
theorem dX5_planNow_50 : decode cX5_planNow 50 = .ok (.lreturn, 1) := by decide +kernel
set_option maxRecDepth 20000 in
theorem ggX5_plan_X5_within : GoodIn wsX5_plan wsX5_within := goodIn_r _ [7] (by decide +kernel) (by decide +kernel)
set_option maxRecDepth 20000 in
theorem gX5_plan_X5_within : GoodIn wsX5_plan (va_wsS RX5 57 yX5_within wsX5_within) := goodIn_app (goodIn_of _ (by decide +kernel)) ggX5_plan_X5_within
set_option maxRecDepth 20000 in
theorem ggX5_plan_X5_layPlan : GoodIn wsX5_plan wsX5_layPlan := goodIn_r _ [11, 12, 13, 14, 15, 16, 17, 6, 18, 1, 19, 20, 21, 22, 23, 24, 25, 26, 27, 28, 4, 5, 7, 29, 30, 31, 32, 33, 34, 35, 36, 37, 38, 39, 40, 41, 42, 43, 44, 45, 46, 47, 48, 49, 50, 51, 52, 53, 54, 55, 56, 57, 58, 59, 60, 61, 62, 63, 64, 65, 66, 67, 68, 69, 70, 71, 72, 73, 74, 75, 76, 77, 78, 79, 80, 81, 82, 83, 84, 85, 86, 87, 88, 89, 90, 96, 97, 98, 99, 100, 101, 102, 103, 104, 105, 106, 107, 108, 109, 110, 111, 112, 113, 114, 115, 116, 117, 118, 119, 120, 121, 122] (by decide +kernel) (by decide +kernel)
set_option maxRecDepth 20000 in
theorem gX5_plan_X5_layPlan : GoodIn wsX5_plan (wsV RX5 239 RX5 yX5_layPlan wsX5_layPlan) := goodIn_app (goodIn_of _ (by decide +kernel)) ggX5_plan_X5_layPlan
set_option maxRecDepth 20000 in
theorem ggX5_plan_X5_planNow : GoodIn wsX5_plan wsX5_planNow := goodIn_r _ [94, 12, 95, 13, 96, 97, 98, 99, 100, 101, 102, 103, 104, 105, 106, 107, 108, 109, 110, 111, 112, 113, 114, 115, 116, 117, 118, 119, 120, 121, 122] (by decide +kernel) (by decide +kernel)
set_option maxRecDepth 20000 in
theorem gX5_plan_X5_planNow : GoodIn wsX5_plan (wsV RX5 242 RX5 yX5_planNow wsX5_planNow) := goodIn_app (goodIn_of _ (by decide +kernel)) ggX5_plan_X5_planNow
theorem dX5_plan_0 : decode cX5_plan 0 = .ok (.aload_n 0, 1) := by decide +kernel
theorem dX5_plan_1 : decode cX5_plan 1 = .ok (.getfield 104, 3) := by decide +kernel
theorem dX5_plan_4 : decode cX5_plan 4 = .ok (.ifCond .ne 7, 3) := by decide +kernel
theorem dX5_plan_7 : decode cX5_plan 7 = .ok (.ldc2_w 102, 3) := by decide +kernel
theorem dX5_plan_10 : decode cX5_plan 10 = .ok (.lreturn, 1) := by decide +kernel
theorem dX5_plan_11 : decode cX5_plan 11 = .ok (.iload_n 1, 1) := by decide +kernel
theorem dX5_plan_12 : decode cX5_plan 12 = .ok (.ifCond .eq 18, 3) := by decide +kernel
theorem dX5_plan_15 : decode cX5_plan 15 = .ok (.iload_n 1, 1) := by decide +kernel
theorem dX5_plan_16 : decode cX5_plan 16 = .ok (.bipush 10, 2) := by decide +kernel
theorem dX5_plan_18 : decode cX5_plan 18 = .ok (.bipush 15, 2) := by decide +kernel
theorem dX5_plan_20 : decode cX5_plan 20 = .ok (.invokestatic 57, 3) := by decide +kernel
theorem dX5_plan_23 : decode cX5_plan 23 = .ok (.ifCond .ne 7, 3) := by decide +kernel
theorem dX5_plan_26 : decode cX5_plan 26 = .ok (.ldc2_w 61, 3) := by decide +kernel
theorem dX5_plan_29 : decode cX5_plan 29 = .ok (.lreturn, 1) := by decide +kernel
theorem dX5_plan_30 : decode cX5_plan 30 = .ok (.aload_n 0, 1) := by decide +kernel
theorem dX5_plan_31 : decode cX5_plan 31 = .ok (.invokevirtual 239, 3) := by decide +kernel
theorem dX5_plan_34 : decode cX5_plan 34 = .ok (.aload_n 0, 1) := by decide +kernel
theorem dX5_plan_35 : decode cX5_plan 35 = .ok (.iload_n 1, 1) := by decide +kernel
theorem dX5_plan_36 : decode cX5_plan 36 = .ok (.invokevirtual 242, 3) := by decide +kernel
theorem dX5_plan_39 : decode cX5_plan 39 = .ok (.lreturn, 1) := by decide +kernel
set_option maxRecDepth 20000 in
theorem ggX5_canRest_X5_rankNow : GoodIn wsX5_canRest wsX5_rankNow := goodIn_r _ [7, 1, 8, 9, 10, 11, 6, 12, 13, 14, 15, 16, 17, 18, 19, 20, 21, 22, 23, 24, 25, 26, 27, 28, 29, 30, 31, 32, 33, 34, 35, 36, 37, 38, 39, 54, 55, 56, 57, 58, 59, 60, 61, 62, 63, 64, 65, 66, 67, 68, 69, 70, 71, 72, 73, 74, 75, 76, 77, 78, 79, 80] (by decide +kernel) (by decide +kernel)
set_option maxRecDepth 20000 in
theorem gX5_canRest_X5_rankNow : GoodIn wsX5_canRest (wsV RX5 159 RX5 yX5_rankNow wsX5_rankNow) := goodIn_app (goodIn_of _ (by decide +kernel)) ggX5_canRest_X5_rankNow
set_option maxRecDepth 20000 in
theorem ggX5_canRest_X5_layTried : GoodIn wsX5_canRest wsX5_layTried := goodIn_r _ [43, 1, 2, 44, 54, 55, 56, 57, 58, 59, 60, 61, 62, 63, 64, 65, 66, 67, 68, 69, 70, 71, 72, 73, 74, 75, 76, 77, 78, 79, 80] (by decide +kernel) (by decide +kernel)
set_option maxRecDepth 20000 in
theorem gX5_canRest_X5_layTried : GoodIn wsX5_canRest (wsV RX5 118 RX5 yX5_layTried wsX5_layTried) := goodIn_app (goodIn_of _ (by decide +kernel)) ggX5_canRest_X5_layTried
set_option maxRecDepth 20000 in
theorem ggX5_canRest_X5_goOn : GoodIn wsX5_canRest wsX5_goOn := goodIn_r _ [48, 1, 49, 13, 54, 55, 56, 57, 58, 59, 60, 61, 62, 63, 64, 65, 66, 67, 68, 69, 70, 71, 72, 73, 74, 75, 76, 77, 78, 79, 80] (by decide +kernel) (by decide +kernel)
set_option maxRecDepth 20000 in
theorem gX5_canRest_X5_goOn : GoodIn wsX5_canRest (wsV RX5 121 RX5 yX5_goOn wsX5_goOn) := goodIn_app (goodIn_of _ (by decide +kernel)) ggX5_canRest_X5_goOn
set_option maxRecDepth 20000 in
theorem ggX5_canRest_X5_isMore : GoodIn wsX5_canRest wsX5_isMore := goodIn_r _ [53, 1, 8, 2, 9, 10, 11, 6, 12, 13, 14, 15, 16, 17, 18, 19, 20, 21, 22, 23, 24, 25, 26, 27, 28, 29, 30, 31, 32, 33, 34, 35, 36, 37, 38, 39, 54, 55, 56, 57, 58, 59, 60, 61, 62, 63, 64, 65, 66, 67, 68, 69, 70, 71, 72, 73, 74, 75, 76, 77, 78, 79, 80] (by decide +kernel) (by decide +kernel)
set_option maxRecDepth 20000 in
theorem gX5_canRest_X5_isMore : GoodIn wsX5_canRest (wsV RX5 246 RX5 yX5_isMore wsX5_isMore) := goodIn_app (goodIn_of _ (by decide +kernel)) ggX5_canRest_X5_isMore
theorem dX5_canRest_0 : decode cX5_canRest 0 = .ok (.aload_n 0, 1) := by decide +kernel
theorem dX5_canRest_1 : decode cX5_canRest 1 = .ok (.iconst 0, 1) := by decide +kernel
theorem dX5_canRest_2 : decode cX5_canRest 2 = .ok (.invokevirtual 159, 3) := by decide +kernel
theorem dX5_canRest_5 : decode cX5_canRest 5 = .ok (.istore_n 1, 1) := by decide +kernel
theorem dX5_canRest_6 : decode cX5_canRest 6 = .ok (.iload_n 1, 1) := by decide +kernel
theorem dX5_canRest_7 : decode cX5_canRest 7 = .ok (.aload_n 0, 1) := by decide +kernel
theorem dX5_canRest_8 : decode cX5_canRest 8 = .ok (.getfield 104, 3) := by decide +kernel
theorem dX5_canRest_11 : decode cX5_canRest 11 = .ok (.if_icmp .ne 5, 3) := by decide +kernel
theorem dX5_canRest_14 : decode cX5_canRest 14 = .ok (.iconst 1, 1) := by decide +kernel
theorem dX5_canRest_15 : decode cX5_canRest 15 = .ok (.ireturn, 1) := by decide +kernel
theorem dX5_canRest_16 : decode cX5_canRest 16 = .ok (.aload_n 0, 1) := by decide +kernel
theorem dX5_canRest_17 : decode cX5_canRest 17 = .ok (.invokevirtual 118, 3) := by decide +kernel
theorem dX5_canRest_20 : decode cX5_canRest 20 = .ok (.iconst 0, 1) := by decide +kernel
theorem dX5_canRest_21 : decode cX5_canRest 21 = .ok (.istore_n 2, 1) := by decide +kernel
theorem dX5_canRest_22 : decode cX5_canRest 22 = .ok (.iload_n 2, 1) := by decide +kernel
theorem dX5_canRest_23 : decode cX5_canRest 23 = .ok (.aload_n 0, 1) := by decide +kernel
theorem dX5_canRest_24 : decode cX5_canRest 24 = .ok (.getfield 104, 3) := by decide +kernel
theorem dX5_canRest_27 : decode cX5_canRest 27 = .ok (.if_icmp .ge 18, 3) := by decide +kernel
theorem dX5_canRest_30 : decode cX5_canRest 30 = .ok (.aload_n 0, 1) := by decide +kernel
theorem dX5_canRest_31 : decode cX5_canRest 31 = .ok (.aload_n 0, 1) := by decide +kernel
theorem dX5_canRest_32 : decode cX5_canRest 32 = .ok (.getfield 30, 3) := by decide +kernel
theorem dX5_canRest_35 : decode cX5_canRest 35 = .ok (.lconst 0, 1) := by decide +kernel
theorem dX5_canRest_36 : decode cX5_canRest 36 = .ok (.invokevirtual 121, 3) := by decide +kernel
theorem dX5_canRest_39 : decode cX5_canRest 39 = .ok (.iinc 2 1, 3) := by decide +kernel
theorem dX5_canRest_42 : decode cX5_canRest 42 = .ok (.goto (-20), 3) := by decide +kernel
theorem dX5_canRest_45 : decode cX5_canRest 45 = .ok (.iconst 0, 1) := by decide +kernel
theorem dX5_canRest_46 : decode cX5_canRest 46 = .ok (.istore_n 2, 1) := by decide +kernel
theorem dX5_canRest_47 : decode cX5_canRest 47 = .ok (.iload_n 2, 1) := by decide +kernel
theorem dX5_canRest_48 : decode cX5_canRest 48 = .ok (.aload_n 0, 1) := by decide +kernel
theorem dX5_canRest_49 : decode cX5_canRest 49 = .ok (.getfield 104, 3) := by decide +kernel
theorem dX5_canRest_52 : decode cX5_canRest 52 = .ok (.if_icmp .ge 20, 3) := by decide +kernel
theorem dX5_canRest_55 : decode cX5_canRest 55 = .ok (.aload_n 0, 1) := by decide +kernel
theorem dX5_canRest_56 : decode cX5_canRest 56 = .ok (.iload_n 2, 1) := by decide +kernel
theorem dX5_canRest_57 : decode cX5_canRest 57 = .ok (.iload_n 1, 1) := by decide +kernel
theorem dX5_canRest_58 : decode cX5_canRest 58 = .ok (.invokevirtual 246, 3) := by decide +kernel
theorem dX5_canRest_61 : decode cX5_canRest 61 = .ok (.ifCond .eq 5, 3) := by decide +kernel
theorem dX5_canRest_64 : decode cX5_canRest 64 = .ok (.iconst 0, 1) := by decide +kernel
theorem dX5_canRest_65 : decode cX5_canRest 65 = .ok (.ireturn, 1) := by decide +kernel
theorem dX5_canRest_66 : decode cX5_canRest 66 = .ok (.iinc 2 1, 3) := by decide +kernel
theorem dX5_canRest_69 : decode cX5_canRest 69 = .ok (.goto (-22), 3) := by decide +kernel
theorem dX5_canRest_72 : decode cX5_canRest 72 = .ok (.iconst 1, 1) := by decide +kernel
theorem dX5_canRest_73 : decode cX5_canRest 73 = .ok (.ireturn, 1) := by decide +kernel
set_option maxRecDepth 20000 in
theorem ggX5_isMore_X5_layRows : GoodIn wsX5_isMore wsX5_layRows := goodIn_r _ [8, 2, 1, 9, 10, 11, 12, 7, 13, 14, 15, 16, 17, 18, 19, 20, 36, 37, 38, 39, 40, 41, 42, 43, 44, 45, 46, 47, 48, 49, 50, 51, 52, 53, 54, 55, 56, 57, 58, 59, 60, 61, 62] (by decide +kernel) (by decide +kernel)
set_option maxRecDepth 20000 in
theorem gX5_isMore_X5_layRows : GoodIn wsX5_isMore (wsV RX5 140 RX5 yX5_layRows wsX5_layRows) := goodIn_app (goodIn_of _ (by decide +kernel)) ggX5_isMore_X5_layRows
set_option maxRecDepth 20000 in
theorem ggX5_isMore_X5_determinant : GoodIn wsX5_isMore wsX5_determinant := goodIn_r _ [24, 25, 26, 7, 27] (by decide +kernel) (by decide +kernel)
set_option maxRecDepth 20000 in
theorem gX5_isMore_X5_determinant : GoodIn wsX5_isMore (wsV RX5 148 RX5 yX5_determinant wsX5_determinant) := goodIn_app (goodIn_of _ (by decide +kernel)) ggX5_isMore_X5_determinant
set_option maxRecDepth 20000 in
theorem ggX5_isMore_X5_areTwo : GoodIn wsX5_isMore wsX5_areTwo := goodIn_r _ [31, 2, 10, 11, 12, 7, 13, 1, 14, 15, 16, 36, 37, 38, 39, 40, 41, 42, 43, 44, 45, 46, 47, 48, 49, 50, 51, 52, 53, 54, 55, 56, 57, 58, 59, 60, 61, 62] (by decide +kernel) (by decide +kernel)
set_option maxRecDepth 20000 in
theorem gX5_isMore_X5_areTwo : GoodIn wsX5_isMore (wsV RX5 152 RX5 yX5_areTwo wsX5_areTwo) := goodIn_app (goodIn_of _ (by decide +kernel)) ggX5_isMore_X5_areTwo
set_option maxRecDepth 20000 in
theorem ggX5_isMore_X5_isAny : GoodIn wsX5_isMore wsX5_isAny := goodIn_r _ [35, 2, 10, 11, 12, 7, 13, 1, 14, 15, 16, 36, 37, 38, 39, 40, 41, 42, 43, 44, 45, 46, 47, 48, 49, 50, 51, 52, 53, 54, 55, 56, 57, 58, 59, 60, 61, 62] (by decide +kernel) (by decide +kernel)
set_option maxRecDepth 20000 in
theorem gX5_isMore_X5_isAny : GoodIn wsX5_isMore (wsV RX5 156 RX5 yX5_isAny wsX5_isAny) := goodIn_app (goodIn_of _ (by decide +kernel)) ggX5_isMore_X5_isAny
theorem dX5_isMore_0 : decode cX5_isMore 0 = .ok (.aload_n 0, 1) := by decide +kernel
theorem dX5_isMore_1 : decode cX5_isMore 1 = .ok (.iconst 0, 1) := by decide +kernel
theorem dX5_isMore_2 : decode cX5_isMore 2 = .ok (.invokevirtual 140, 3) := by decide +kernel
theorem dX5_isMore_5 : decode cX5_isMore 5 = .ok (.iconst 0, 1) := by decide +kernel
theorem dX5_isMore_6 : decode cX5_isMore 6 = .ok (.istore_n 3, 1) := by decide +kernel
theorem dX5_isMore_7 : decode cX5_isMore 7 = .ok (.iload_n 3, 1) := by decide +kernel
theorem dX5_isMore_8 : decode cX5_isMore 8 = .ok (.aload_n 0, 1) := by decide +kernel
theorem dX5_isMore_9 : decode cX5_isMore 9 = .ok (.getfield 104, 3) := by decide +kernel
theorem dX5_isMore_12 : decode cX5_isMore 12 = .ok (.if_icmp .ge 25, 3) := by decide +kernel
theorem dX5_isMore_15 : decode cX5_isMore 15 = .ok (.aload_n 0, 1) := by decide +kernel
theorem dX5_isMore_16 : decode cX5_isMore 16 = .ok (.getfield 33, 3) := by decide +kernel
theorem dX5_isMore_19 : decode cX5_isMore 19 = .ok (.iconst 3, 1) := by decide +kernel
theorem dX5_isMore_20 : decode cX5_isMore 20 = .ok (.iload_n 1, 1) := by decide +kernel
theorem dX5_isMore_21 : decode cX5_isMore 21 = .ok (.imul, 1) := by decide +kernel
theorem dX5_isMore_22 : decode cX5_isMore 22 = .ok (.iload_n 3, 1) := by decide +kernel
theorem dX5_isMore_23 : decode cX5_isMore 23 = .ok (.iadd, 1) := by decide +kernel
theorem dX5_isMore_24 : decode cX5_isMore 24 = .ok (.aload_n 0, 1) := by decide +kernel
theorem dX5_isMore_25 : decode cX5_isMore 25 = .ok (.getfield 30, 3) := by decide +kernel
theorem dX5_isMore_28 : decode cX5_isMore 28 = .ok (.iload_n 3, 1) := by decide +kernel
theorem dX5_isMore_29 : decode cX5_isMore 29 = .ok (.laload, 1) := by decide +kernel
theorem dX5_isMore_30 : decode cX5_isMore 30 = .ok (.lastore, 1) := by decide +kernel
theorem dX5_isMore_31 : decode cX5_isMore 31 = .ok (.iinc 3 1, 3) := by decide +kernel
theorem dX5_isMore_34 : decode cX5_isMore 34 = .ok (.goto (-27), 3) := by decide +kernel
theorem dX5_isMore_37 : decode cX5_isMore 37 = .ok (.aload_n 0, 1) := by decide +kernel
theorem dX5_isMore_38 : decode cX5_isMore 38 = .ok (.aload_n 0, 1) := by decide +kernel
theorem dX5_isMore_39 : decode cX5_isMore 39 = .ok (.getfield 33, 3) := by decide +kernel
theorem dX5_isMore_42 : decode cX5_isMore 42 = .ok (.iconst 3, 1) := by decide +kernel
theorem dX5_isMore_43 : decode cX5_isMore 43 = .ok (.aload_n 0, 1) := by decide +kernel
theorem dX5_isMore_44 : decode cX5_isMore 44 = .ok (.getfield 33, 3) := by decide +kernel
theorem dX5_isMore_47 : decode cX5_isMore 47 = .ok (.invokevirtual 148, 3) := by decide +kernel
theorem dX5_isMore_50 : decode cX5_isMore 50 = .ok (.lconst 0, 1) := by decide +kernel
theorem dX5_isMore_51 : decode cX5_isMore 51 = .ok (.lcmp, 1) := by decide +kernel
theorem dX5_isMore_52 : decode cX5_isMore 52 = .ok (.ifCond .eq 10, 3) := by decide +kernel
theorem dX5_isMore_55 : decode cX5_isMore 55 = .ok (.aload_n 0, 1) := by decide +kernel
theorem dX5_isMore_56 : decode cX5_isMore 56 = .ok (.getfield 104, 3) := by decide +kernel
theorem dX5_isMore_59 : decode cX5_isMore 59 = .ok (.goto 34, 3) := by decide +kernel
theorem dX5_isMore_62 : decode cX5_isMore 62 = .ok (.aload_n 0, 1) := by decide +kernel
theorem dX5_isMore_63 : decode cX5_isMore 63 = .ok (.getfield 104, 3) := by decide +kernel
theorem dX5_isMore_66 : decode cX5_isMore 66 = .ok (.iconst 2, 1) := by decide +kernel
theorem dX5_isMore_67 : decode cX5_isMore 67 = .ok (.if_icmp .le 14, 3) := by decide +kernel
theorem dX5_isMore_70 : decode cX5_isMore 70 = .ok (.aload_n 0, 1) := by decide +kernel
theorem dX5_isMore_71 : decode cX5_isMore 71 = .ok (.invokevirtual 152, 3) := by decide +kernel
theorem dX5_isMore_74 : decode cX5_isMore 74 = .ok (.ifCond .eq 7, 3) := by decide +kernel
theorem dX5_isMore_77 : decode cX5_isMore 77 = .ok (.iconst 2, 1) := by decide +kernel
theorem dX5_isMore_78 : decode cX5_isMore 78 = .ok (.goto 15, 3) := by decide +kernel
theorem dX5_isMore_81 : decode cX5_isMore 81 = .ok (.aload_n 0, 1) := by decide +kernel
theorem dX5_isMore_82 : decode cX5_isMore 82 = .ok (.invokevirtual 156, 3) := by decide +kernel
theorem dX5_isMore_85 : decode cX5_isMore 85 = .ok (.ifCond .eq 7, 3) := by decide +kernel
theorem dX5_isMore_88 : decode cX5_isMore 88 = .ok (.iconst 1, 1) := by decide +kernel
theorem dX5_isMore_89 : decode cX5_isMore 89 = .ok (.goto 4, 3) := by decide +kernel
theorem dX5_isMore_92 : decode cX5_isMore 92 = .ok (.iconst 0, 1) := by decide +kernel
theorem dX5_isMore_93 : decode cX5_isMore 93 = .ok (.istore_n 3, 1) := by decide +kernel
theorem dX5_isMore_94 : decode cX5_isMore 94 = .ok (.iload_n 3, 1) := by decide +kernel
theorem dX5_isMore_95 : decode cX5_isMore 95 = .ok (.iload_n 2, 1) := by decide +kernel
theorem dX5_isMore_96 : decode cX5_isMore 96 = .ok (.if_icmp .le 7, 3) := by decide +kernel
theorem dX5_isMore_99 : decode cX5_isMore 99 = .ok (.iconst 1, 1) := by decide +kernel
theorem dX5_isMore_100 : decode cX5_isMore 100 = .ok (.goto 4, 3) := by decide +kernel
theorem dX5_isMore_103 : decode cX5_isMore 103 = .ok (.iconst 0, 1) := by decide +kernel
theorem dX5_isMore_104 : decode cX5_isMore 104 = .ok (.ireturn, 1) := by decide +kernel
set_option maxRecDepth 20000 in
theorem ggX5_aboutNow_X5_rankNow : GoodIn wsX5_aboutNow wsX5_rankNow := goodIn_r _ [5, 6, 7, 8, 9, 10, 4, 11, 12, 13, 14, 15, 16, 17, 18, 19, 20, 21, 22, 23, 24, 25, 26, 27, 28, 29, 30, 31, 32, 33, 34, 35, 36, 37, 38, 66, 67, 68, 69, 70, 71, 72, 73, 74, 75, 76, 77, 78, 79, 80, 81, 82, 83, 84, 85, 86, 87, 88, 89, 90, 91, 92] (by decide +kernel) (by decide +kernel)
set_option maxRecDepth 20000 in
theorem gX5_aboutNow_X5_rankNow : GoodIn wsX5_aboutNow (wsV RX5 159 RX5 yX5_rankNow wsX5_rankNow) := goodIn_app (goodIn_of _ (by decide +kernel)) ggX5_aboutNow_X5_rankNow
set_option maxRecDepth 20000 in
theorem ggX5_aboutNow_X5_isFull : GoodIn wsX5_aboutNow wsX5_isFull := goodIn_r _ [42, 6, 1, 2, 3, 4, 5, 7, 8, 9, 10, 11, 12, 13, 14, 15, 16, 17, 18, 19, 20, 21, 22, 23, 24, 25, 26, 27, 28, 29, 30, 31, 32, 33, 34, 35, 36, 37, 38, 66, 67, 68, 69, 70, 71, 72, 73, 74, 75, 76, 77, 78, 79, 80, 81, 82, 83, 84, 85, 86, 87, 88, 89, 90, 91, 92] (by decide +kernel) (by decide +kernel)
set_option maxRecDepth 20000 in
theorem gX5_aboutNow_X5_isFull : GoodIn wsX5_aboutNow (wsV RX5 192 RX5 yX5_isFull wsX5_isFull) := goodIn_app (goodIn_of _ (by decide +kernel)) ggX5_aboutNow_X5_isFull
set_option maxRecDepth 20000 in
theorem ggX5_aboutNow_X5_canRest : GoodIn wsX5_aboutNow wsX5_canRest := goodIn_r _ [46, 6, 47, 1, 2, 3, 4, 5, 7, 8, 9, 10, 11, 12, 13, 14, 15, 16, 17, 18, 19, 20, 21, 22, 23, 24, 25, 26, 27, 28, 29, 30, 31, 32, 33, 34, 35, 36, 37, 38, 48, 49, 50, 51, 52, 53, 54, 55, 56, 57, 58, 59, 60, 61, 66, 67, 68, 69, 70, 71, 72, 73, 74, 75, 76, 77, 78, 79, 80, 81, 82, 83, 84, 85, 86, 87, 88, 89, 90, 91, 92] (by decide +kernel) (by decide +kernel)
set_option maxRecDepth 20000 in
theorem gX5_aboutNow_X5_canRest : GoodIn wsX5_aboutNow (wsV RX5 249 RX5 yX5_canRest wsX5_canRest) := goodIn_app (goodIn_of _ (by decide +kernel)) ggX5_aboutNow_X5_canRest
set_option maxRecDepth 20000 in
theorem ggX5_aboutNow_X5_seenNow : GoodIn wsX5_aboutNow wsX5_seenNow := goodIn_r _ [65, 6, 12, 52, 66, 67, 68, 69, 70, 71, 72, 73, 74, 75, 76, 77, 78, 79, 80, 81, 82, 83, 84, 85, 86, 87, 88, 89, 90, 91, 92] (by decide +kernel) (by decide +kernel)
set_option maxRecDepth 20000 in
theorem gX5_aboutNow_X5_seenNow : GoodIn wsX5_aboutNow (wsV RX5 132 RX5 yX5_seenNow wsX5_seenNow) := goodIn_app (goodIn_of _ (by decide +kernel)) ggX5_aboutNow_X5_seenNow
theorem dX5_aboutNow_0 : decode cX5_aboutNow 0 = .ok (.iload_n 1, 1) := by decide +kernel
theorem dX5_aboutNow_1 : decode cX5_aboutNow 1 = .ok (.tableswitch 90 0 4 #[35, 42, 49, 63, 77], 35) := by decide +kernel
theorem dX5_aboutNow_36 : decode cX5_aboutNow 36 = .ok (.aload_n 0, 1) := by decide +kernel
theorem dX5_aboutNow_37 : decode cX5_aboutNow 37 = .ok (.iconst 0, 1) := by decide +kernel
theorem dX5_aboutNow_38 : decode cX5_aboutNow 38 = .ok (.invokevirtual 159, 3) := by decide +kernel
theorem dX5_aboutNow_41 : decode cX5_aboutNow 41 = .ok (.i2l, 1) := by decide +kernel
theorem dX5_aboutNow_42 : decode cX5_aboutNow 42 = .ok (.lreturn, 1) := by decide +kernel
theorem dX5_aboutNow_43 : decode cX5_aboutNow 43 = .ok (.aload_n 0, 1) := by decide +kernel
theorem dX5_aboutNow_44 : decode cX5_aboutNow 44 = .ok (.iconst 1, 1) := by decide +kernel
theorem dX5_aboutNow_45 : decode cX5_aboutNow 45 = .ok (.invokevirtual 159, 3) := by decide +kernel
theorem dX5_aboutNow_48 : decode cX5_aboutNow 48 = .ok (.i2l, 1) := by decide +kernel
theorem dX5_aboutNow_49 : decode cX5_aboutNow 49 = .ok (.lreturn, 1) := by decide +kernel
theorem dX5_aboutNow_50 : decode cX5_aboutNow 50 = .ok (.aload_n 0, 1) := by decide +kernel
theorem dX5_aboutNow_51 : decode cX5_aboutNow 51 = .ok (.iconst 0, 1) := by decide +kernel
theorem dX5_aboutNow_52 : decode cX5_aboutNow 52 = .ok (.invokevirtual 192, 3) := by decide +kernel
theorem dX5_aboutNow_55 : decode cX5_aboutNow 55 = .ok (.ifCond .eq 7, 3) := by decide +kernel
theorem dX5_aboutNow_58 : decode cX5_aboutNow 58 = .ok (.lconst 1, 1) := by decide +kernel
theorem dX5_aboutNow_59 : decode cX5_aboutNow 59 = .ok (.goto 4, 3) := by decide +kernel
theorem dX5_aboutNow_62 : decode cX5_aboutNow 62 = .ok (.lconst 0, 1) := by decide +kernel
theorem dX5_aboutNow_63 : decode cX5_aboutNow 63 = .ok (.lreturn, 1) := by decide +kernel
theorem dX5_aboutNow_64 : decode cX5_aboutNow 64 = .ok (.aload_n 0, 1) := by decide +kernel
theorem dX5_aboutNow_65 : decode cX5_aboutNow 65 = .ok (.iconst 1, 1) := by decide +kernel
theorem dX5_aboutNow_66 : decode cX5_aboutNow 66 = .ok (.invokevirtual 192, 3) := by decide +kernel
theorem dX5_aboutNow_69 : decode cX5_aboutNow 69 = .ok (.ifCond .eq 7, 3) := by decide +kernel
theorem dX5_aboutNow_72 : decode cX5_aboutNow 72 = .ok (.lconst 1, 1) := by decide +kernel
theorem dX5_aboutNow_73 : decode cX5_aboutNow 73 = .ok (.goto 4, 3) := by decide +kernel
theorem dX5_aboutNow_76 : decode cX5_aboutNow 76 = .ok (.lconst 0, 1) := by decide +kernel
theorem dX5_aboutNow_77 : decode cX5_aboutNow 77 = .ok (.lreturn, 1) := by decide +kernel
theorem dX5_aboutNow_78 : decode cX5_aboutNow 78 = .ok (.aload_n 0, 1) := by decide +kernel
theorem dX5_aboutNow_79 : decode cX5_aboutNow 79 = .ok (.invokevirtual 249, 3) := by decide +kernel
theorem dX5_aboutNow_82 : decode cX5_aboutNow 82 = .ok (.ifCond .eq 7, 3) := by decide +kernel
theorem dX5_aboutNow_85 : decode cX5_aboutNow 85 = .ok (.lconst 1, 1) := by decide +kernel
theorem dX5_aboutNow_86 : decode cX5_aboutNow 86 = .ok (.goto 4, 3) := by decide +kernel
theorem dX5_aboutNow_89 : decode cX5_aboutNow 89 = .ok (.lconst 0, 1) := by decide +kernel
theorem dX5_aboutNow_90 : decode cX5_aboutNow 90 = .ok (.lreturn, 1) := by decide +kernel
theorem dX5_aboutNow_91 : decode cX5_aboutNow 91 = .ok (.aload_n 0, 1) := by decide +kernel
theorem dX5_aboutNow_92 : decode cX5_aboutNow 92 = .ok (.invokevirtual 132, 3) := by decide +kernel
theorem dX5_aboutNow_95 : decode cX5_aboutNow 95 = .ok (.lreturn, 1) := by decide +kernel
set_option maxRecDepth 20000 in
theorem ggX5_about_X5_within : GoodIn wsX5_about wsX5_within := goodIn_r _ [7] (by decide +kernel) (by decide +kernel)
set_option maxRecDepth 20000 in
theorem gX5_about_X5_within : GoodIn wsX5_about (va_wsS RX5 57 yX5_within wsX5_within) := goodIn_app (goodIn_of _ (by decide +kernel)) ggX5_about_X5_within
set_option maxRecDepth 20000 in
theorem ggX5_about_X5_aboutNow : GoodIn wsX5_about wsX5_aboutNow := goodIn_r _ [11, 12, 13, 14, 6, 15, 1, 16, 17, 18, 19, 20, 21, 22, 23, 24, 25, 4, 5, 7, 26, 27, 28, 29, 30, 31, 32, 33, 34, 35, 36, 37, 38, 39, 40, 41, 42, 43, 44, 45, 46, 47, 48, 49, 50, 51, 52, 53, 54, 55, 56, 57, 58, 59, 60, 61, 62, 63, 64, 65, 66, 67, 68, 69, 70, 71, 72, 73, 74, 75, 76, 77, 78, 79, 80, 81, 82, 83, 84, 85, 86, 87, 88, 89, 90, 91, 92, 93, 94, 95, 96, 97, 98] (by decide +kernel) (by decide +kernel)
set_option maxRecDepth 20000 in
theorem gX5_about_X5_aboutNow : GoodIn wsX5_about (wsV RX5 252 RX5 yX5_aboutNow wsX5_aboutNow) := goodIn_app (goodIn_of _ (by decide +kernel)) ggX5_about_X5_aboutNow
theorem dX5_about_0 : decode cX5_about 0 = .ok (.aload_n 0, 1) := by decide +kernel
theorem dX5_about_1 : decode cX5_about 1 = .ok (.getfield 104, 3) := by decide +kernel
theorem dX5_about_4 : decode cX5_about 4 = .ok (.ifCond .ne 7, 3) := by decide +kernel
theorem dX5_about_7 : decode cX5_about 7 = .ok (.ldc2_w 102, 3) := by decide +kernel
theorem dX5_about_10 : decode cX5_about 10 = .ok (.lreturn, 1) := by decide +kernel
theorem dX5_about_11 : decode cX5_about 11 = .ok (.iload_n 1, 1) := by decide +kernel
theorem dX5_about_12 : decode cX5_about 12 = .ok (.iconst 0, 1) := by decide +kernel
theorem dX5_about_13 : decode cX5_about 13 = .ok (.iconst 5, 1) := by decide +kernel
theorem dX5_about_14 : decode cX5_about 14 = .ok (.invokestatic 57, 3) := by decide +kernel
theorem dX5_about_17 : decode cX5_about 17 = .ok (.ifCond .eq 11, 3) := by decide +kernel
theorem dX5_about_20 : decode cX5_about 20 = .ok (.aload_n 0, 1) := by decide +kernel
theorem dX5_about_21 : decode cX5_about 21 = .ok (.iload_n 1, 1) := by decide +kernel
theorem dX5_about_22 : decode cX5_about 22 = .ok (.invokevirtual 252, 3) := by decide +kernel
theorem dX5_about_25 : decode cX5_about 25 = .ok (.goto 6, 3) := by decide +kernel
theorem dX5_about_28 : decode cX5_about 28 = .ok (.ldc2_w 61, 3) := by decide +kernel
theorem dX5_about_31 : decode cX5_about 31 = .ok (.lreturn, 1) := by decide +kernel
theorem dX5_howMany_0 : decode cX5_howMany 0 = .ok (.iload_n 1, 1) := by decide +kernel
theorem dX5_howMany_1 : decode cX5_howMany 1 = .ok (.tableswitch 65 0 4 #[35, 41, 47, 53, 59], 35) := by decide +kernel
theorem dX5_howMany_36 : decode cX5_howMany 36 = .ok (.aload_n 0, 1) := by decide +kernel
theorem dX5_howMany_37 : decode cX5_howMany 37 = .ok (.getfield 104, 3) := by decide +kernel
theorem dX5_howMany_40 : decode cX5_howMany 40 = .ok (.i2l, 1) := by decide +kernel
theorem dX5_howMany_41 : decode cX5_howMany 41 = .ok (.lreturn, 1) := by decide +kernel
theorem dX5_howMany_42 : decode cX5_howMany 42 = .ok (.aload_n 0, 1) := by decide +kernel
theorem dX5_howMany_43 : decode cX5_howMany 43 = .ok (.getfield 63, 3) := by decide +kernel
theorem dX5_howMany_46 : decode cX5_howMany 46 = .ok (.i2l, 1) := by decide +kernel
theorem dX5_howMany_47 : decode cX5_howMany 47 = .ok (.lreturn, 1) := by decide +kernel
theorem dX5_howMany_48 : decode cX5_howMany 48 = .ok (.aload_n 0, 1) := by decide +kernel
theorem dX5_howMany_49 : decode cX5_howMany 49 = .ok (.getfield 20, 3) := by decide +kernel
theorem dX5_howMany_52 : decode cX5_howMany 52 = .ok (.i2l, 1) := by decide +kernel
theorem dX5_howMany_53 : decode cX5_howMany 53 = .ok (.lreturn, 1) := by decide +kernel
theorem dX5_howMany_54 : decode cX5_howMany 54 = .ok (.aload_n 0, 1) := by decide +kernel
theorem dX5_howMany_55 : decode cX5_howMany 55 = .ok (.getfield 110, 3) := by decide +kernel
theorem dX5_howMany_58 : decode cX5_howMany 58 = .ok (.i2l, 1) := by decide +kernel
theorem dX5_howMany_59 : decode cX5_howMany 59 = .ok (.lreturn, 1) := by decide +kernel
theorem dX5_howMany_60 : decode cX5_howMany 60 = .ok (.aload_n 0, 1) := by decide +kernel
theorem dX5_howMany_61 : decode cX5_howMany 61 = .ok (.getfield 129, 3) := by decide +kernel
theorem dX5_howMany_64 : decode cX5_howMany 64 = .ok (.i2l, 1) := by decide +kernel
theorem dX5_howMany_65 : decode cX5_howMany 65 = .ok (.lreturn, 1) := by decide +kernel
theorem dX5_howMany_66 : decode cX5_howMany 66 = .ok (.ldc2_w 61, 3) := by decide +kernel
theorem dX5_howMany_69 : decode cX5_howMany 69 = .ok (.lreturn, 1) := by decide +kernel
set_option maxRecDepth 20000 in
theorem ggX5_count_X5_howMany : GoodIn wsX5_count wsX5_howMany := goodIn_r _ [5, 6, 7, 8, 9, 10, 11, 12, 13, 14, 15, 16, 17, 18, 19, 20, 21, 22, 23, 24, 25, 26, 27, 28, 29, 30, 31, 32, 33, 34, 35, 36, 37, 38] (by decide +kernel) (by decide +kernel)
set_option maxRecDepth 20000 in
theorem gX5_count_X5_howMany : GoodIn wsX5_count (wsV RX5 255 RX5 yX5_howMany wsX5_howMany) := goodIn_app (goodIn_of _ (by decide +kernel)) ggX5_count_X5_howMany
theorem dX5_count_0 : decode cX5_count 0 = .ok (.aload_n 0, 1) := by decide +kernel
theorem dX5_count_1 : decode cX5_count 1 = .ok (.iload_n 1, 1) := by decide +kernel
theorem dX5_count_2 : decode cX5_count 2 = .ok (.invokevirtual 255, 3) := by decide +kernel
theorem dX5_count_5 : decode cX5_count 5 = .ok (.lreturn, 1) := by decide +kernel
theorem dX5_mix_0 : decode cX5_mix 0 = .ok (.aload_n 0, 1) := by decide +kernel
theorem dX5_mix_1 : decode cX5_mix 1 = .ok (.ldc2_w 258, 3) := by decide +kernel
theorem dX5_mix_4 : decode cX5_mix 4 = .ok (.aload_n 0, 1) := by decide +kernel
theorem dX5_mix_5 : decode cX5_mix 5 = .ok (.getfield 260, 3) := by decide +kernel
theorem dX5_mix_8 : decode cX5_mix 8 = .ok (.lmul, 1) := by decide +kernel
theorem dX5_mix_9 : decode cX5_mix 9 = .ok (.lload_n 1, 1) := by decide +kernel
theorem dX5_mix_10 : decode cX5_mix 10 = .ok (.ladd, 1) := by decide +kernel
theorem dX5_mix_11 : decode cX5_mix 11 = .ok (.putfield 260, 3) := by decide +kernel
theorem dX5_mix_14 : decode cX5_mix 14 = .ok (.return_, 1) := by decide +kernel
set_option maxRecDepth 20000 in
theorem ggX5_mixRows_X5_layRows : GoodIn wsX5_mixRows wsX5_layRows := goodIn_r _ [7, 2, 1, 8, 9, 10, 11, 6, 12, 13, 14, 15, 16, 17, 18, 19, 26, 27, 28, 29, 30, 31, 32, 33, 34, 35, 36, 37, 38, 39, 40, 41, 42, 43, 44, 45, 46, 47, 48, 49, 50, 51, 52] (by decide +kernel) (by decide +kernel)
set_option maxRecDepth 20000 in
theorem gX5_mixRows_X5_layRows : GoodIn wsX5_mixRows (wsV RX5 140 RX5 yX5_layRows wsX5_layRows) := goodIn_app (goodIn_of _ (by decide +kernel)) ggX5_mixRows_X5_layRows
set_option maxRecDepth 20000 in
theorem ggX5_mixRows_X5_mix : GoodIn wsX5_mixRows wsX5_mix := goodIn_r _ [23, 24, 25, 26, 27, 28, 29, 30, 31, 32, 33, 34, 35, 36, 37, 38, 39, 40, 41, 42, 43, 44, 45, 46, 47, 48, 49, 50, 51, 52] (by decide +kernel) (by decide +kernel)
set_option maxRecDepth 20000 in
theorem gX5_mixRows_X5_mix : GoodIn wsX5_mixRows (wsV RX5 263 RX5 yX5_mix wsX5_mix) := goodIn_app (goodIn_of _ (by decide +kernel)) ggX5_mixRows_X5_mix
theorem dX5_mixRows_0 : decode cX5_mixRows 0 = .ok (.aload_n 0, 1) := by decide +kernel
theorem dX5_mixRows_1 : decode cX5_mixRows 1 = .ok (.iload_n 1, 1) := by decide +kernel
theorem dX5_mixRows_2 : decode cX5_mixRows 2 = .ok (.invokevirtual 140, 3) := by decide +kernel
theorem dX5_mixRows_5 : decode cX5_mixRows 5 = .ok (.iconst 0, 1) := by decide +kernel
theorem dX5_mixRows_6 : decode cX5_mixRows 6 = .ok (.istore_n 2, 1) := by decide +kernel
theorem dX5_mixRows_7 : decode cX5_mixRows 7 = .ok (.iload_n 2, 1) := by decide +kernel
theorem dX5_mixRows_8 : decode cX5_mixRows 8 = .ok (.aload_n 0, 1) := by decide +kernel
theorem dX5_mixRows_9 : decode cX5_mixRows 9 = .ok (.getfield 104, 3) := by decide +kernel
theorem dX5_mixRows_12 : decode cX5_mixRows 12 = .ok (.aload_n 0, 1) := by decide +kernel
theorem dX5_mixRows_13 : decode cX5_mixRows 13 = .ok (.getfield 104, 3) := by decide +kernel
theorem dX5_mixRows_16 : decode cX5_mixRows 16 = .ok (.imul, 1) := by decide +kernel
theorem dX5_mixRows_17 : decode cX5_mixRows 17 = .ok (.if_icmp .ge 33, 3) := by decide +kernel
theorem dX5_mixRows_20 : decode cX5_mixRows 20 = .ok (.aload_n 0, 1) := by decide +kernel
theorem dX5_mixRows_21 : decode cX5_mixRows 21 = .ok (.aload_n 0, 1) := by decide +kernel
theorem dX5_mixRows_22 : decode cX5_mixRows 22 = .ok (.getfield 33, 3) := by decide +kernel
theorem dX5_mixRows_25 : decode cX5_mixRows 25 = .ok (.iconst 3, 1) := by decide +kernel
theorem dX5_mixRows_26 : decode cX5_mixRows 26 = .ok (.iload_n 2, 1) := by decide +kernel
theorem dX5_mixRows_27 : decode cX5_mixRows 27 = .ok (.aload_n 0, 1) := by decide +kernel
theorem dX5_mixRows_28 : decode cX5_mixRows 28 = .ok (.getfield 104, 3) := by decide +kernel
theorem dX5_mixRows_31 : decode cX5_mixRows 31 = .ok (.idiv, 1) := by decide +kernel
theorem dX5_mixRows_32 : decode cX5_mixRows 32 = .ok (.imul, 1) := by decide +kernel
theorem dX5_mixRows_33 : decode cX5_mixRows 33 = .ok (.iload_n 2, 1) := by decide +kernel
theorem dX5_mixRows_34 : decode cX5_mixRows 34 = .ok (.aload_n 0, 1) := by decide +kernel
theorem dX5_mixRows_35 : decode cX5_mixRows 35 = .ok (.getfield 104, 3) := by decide +kernel
theorem dX5_mixRows_38 : decode cX5_mixRows 38 = .ok (.irem, 1) := by decide +kernel
theorem dX5_mixRows_39 : decode cX5_mixRows 39 = .ok (.iadd, 1) := by decide +kernel
theorem dX5_mixRows_40 : decode cX5_mixRows 40 = .ok (.laload, 1) := by decide +kernel
theorem dX5_mixRows_41 : decode cX5_mixRows 41 = .ok (.invokevirtual 263, 3) := by decide +kernel
theorem dX5_mixRows_44 : decode cX5_mixRows 44 = .ok (.iinc 2 1, 3) := by decide +kernel
theorem dX5_mixRows_47 : decode cX5_mixRows 47 = .ok (.goto (-40), 3) := by decide +kernel
theorem dX5_mixRows_50 : decode cX5_mixRows 50 = .ok (.return_, 1) := by decide +kernel
set_option maxRecDepth 20000 in
theorem ggX5_mixRest_X5_gainNow : GoodIn wsX5_mixRest wsX5_gainNow := goodIn_r _ [6, 7, 8, 9, 10, 11, 5, 12, 13, 1, 14, 15, 16, 17, 18, 19, 20, 21, 22, 23, 24, 25, 26, 27, 28, 29, 30, 31, 32, 33, 34, 35, 36, 37, 38, 39, 40, 41, 42, 43, 44, 45, 46, 47, 48, 49, 50, 51, 52, 53, 54, 55, 56, 57, 77, 78, 79, 80, 81, 82, 83, 84, 85, 86, 87, 88, 89, 90, 91, 92, 93, 94, 95, 96, 97, 98, 99, 100, 101, 102, 103] (by decide +kernel) (by decide +kernel)
set_option maxRecDepth 20000 in
theorem gX5_mixRest_X5_gainNow : GoodIn wsX5_mixRest (wsV RX5 196 RX5 yX5_gainNow wsX5_gainNow) := goodIn_app (goodIn_of _ (by decide +kernel)) ggX5_mixRest_X5_gainNow
set_option maxRecDepth 20000 in
theorem ggX5_mixRest_X5_mix : GoodIn wsX5_mixRest wsX5_mix := goodIn_r _ [61, 62, 63, 77, 78, 79, 80, 81, 82, 83, 84, 85, 86, 87, 88, 89, 90, 91, 92, 93, 94, 95, 96, 97, 98, 99, 100, 101, 102, 103] (by decide +kernel) (by decide +kernel)
set_option maxRecDepth 20000 in
theorem gX5_mixRest_X5_mix : GoodIn wsX5_mixRest (wsV RX5 263 RX5 yX5_mix wsX5_mix) := goodIn_app (goodIn_of _ (by decide +kernel)) ggX5_mixRest_X5_mix
set_option maxRecDepth 20000 in
theorem ggX5_mixRest_X5_mostNow : GoodIn wsX5_mixRest wsX5_mostNow := goodIn_r _ [67, 51, 9, 10, 11, 5, 12, 13, 8, 1, 14, 15, 16, 17, 18, 19, 20, 21, 22, 23, 24, 25, 26, 27, 28, 29, 30, 31, 32, 33, 34, 35, 36, 37, 38, 39, 40, 41, 7, 42, 43, 44, 45, 46, 47, 48, 49, 50, 77, 78, 79, 80, 81, 82, 83, 84, 85, 86, 87, 88, 89, 90, 91, 92, 93, 94, 95, 96, 97, 98, 99, 100, 101, 102, 103] (by decide +kernel) (by decide +kernel)
set_option maxRecDepth 20000 in
theorem gX5_mixRest_X5_mostNow : GoodIn wsX5_mixRest (wsV RX5 208 RX5 yX5_mostNow wsX5_mostNow) := goodIn_app (goodIn_of _ (by decide +kernel)) ggX5_mixRest_X5_mostNow
set_option maxRecDepth 20000 in
theorem ggX5_mixRest_X5_inputNow : GoodIn wsX5_mixRest wsX5_inputNow := goodIn_r _ [71, 1, 7, 72, 8, 9, 10, 11, 5, 12, 13, 14, 15, 16, 17, 18, 19, 20, 21, 22, 23, 24, 25, 26, 27, 28, 29, 30, 31, 32, 33, 34, 35, 36, 37, 38, 39, 40, 41, 42, 43, 44, 45, 46, 47, 48, 49, 50, 51, 52, 53, 54, 55, 56, 57, 77, 78, 79, 80, 81, 82, 83, 84, 85, 86, 87, 88, 89, 90, 91, 92, 93, 94, 95, 96, 97, 98, 99, 100, 101, 102, 103] (by decide +kernel) (by decide +kernel)
set_option maxRecDepth 20000 in
theorem gX5_mixRest_X5_inputNow : GoodIn wsX5_mixRest (wsV RX5 204 RX5 yX5_inputNow wsX5_inputNow) := goodIn_app (goodIn_of _ (by decide +kernel)) ggX5_mixRest_X5_inputNow
set_option maxRecDepth 20000 in
theorem ggX5_mixRest_X5_afterNow : GoodIn wsX5_mixRest wsX5_afterNow := goodIn_r _ [76, 1, 51, 72, 8, 9, 10, 11, 5, 12, 13, 14, 15, 16, 17, 18, 19, 20, 21, 22, 23, 24, 25, 26, 27, 28, 29, 30, 31, 32, 33, 34, 35, 36, 37, 38, 39, 40, 41, 7, 42, 43, 44, 45, 46, 47, 48, 49, 50, 52, 53, 54, 55, 56, 57, 77, 78, 79, 80, 81, 82, 83, 84, 85, 86, 87, 88, 89, 90, 91, 92, 93, 94, 95, 96, 97, 98, 99, 100, 101, 102, 103] (by decide +kernel) (by decide +kernel)
set_option maxRecDepth 20000 in
theorem gX5_mixRest_X5_afterNow : GoodIn wsX5_mixRest (wsV RX5 200 RX5 yX5_afterNow wsX5_afterNow) := goodIn_app (goodIn_of _ (by decide +kernel)) ggX5_mixRest_X5_afterNow
theorem dX5_mixRest_0 : decode cX5_mixRest 0 = .ok (.iconst 0, 1) := by decide +kernel
theorem dX5_mixRest_1 : decode cX5_mixRest 1 = .ok (.istore_n 2, 1) := by decide +kernel
theorem dX5_mixRest_2 : decode cX5_mixRest 2 = .ok (.iload_n 2, 1) := by decide +kernel
theorem dX5_mixRest_3 : decode cX5_mixRest 3 = .ok (.iconst 2, 1) := by decide +kernel
theorem dX5_mixRest_4 : decode cX5_mixRest 4 = .ok (.aload_n 0, 1) := by decide +kernel
theorem dX5_mixRest_5 : decode cX5_mixRest 5 = .ok (.getfield 104, 3) := by decide +kernel
theorem dX5_mixRest_8 : decode cX5_mixRest 8 = .ok (.imul, 1) := by decide +kernel
theorem dX5_mixRest_9 : decode cX5_mixRest 9 = .ok (.if_icmp .ge 24, 3) := by decide +kernel
theorem dX5_mixRest_12 : decode cX5_mixRest 12 = .ok (.aload_n 0, 1) := by decide +kernel
theorem dX5_mixRest_13 : decode cX5_mixRest 13 = .ok (.aload_n 0, 1) := by decide +kernel
theorem dX5_mixRest_14 : decode cX5_mixRest 14 = .ok (.iload_n 1, 1) := by decide +kernel
theorem dX5_mixRest_15 : decode cX5_mixRest 15 = .ok (.iload_n 2, 1) := by decide +kernel
theorem dX5_mixRest_16 : decode cX5_mixRest 16 = .ok (.iconst 2, 1) := by decide +kernel
theorem dX5_mixRest_17 : decode cX5_mixRest 17 = .ok (.idiv, 1) := by decide +kernel
theorem dX5_mixRest_18 : decode cX5_mixRest 18 = .ok (.iload_n 2, 1) := by decide +kernel
theorem dX5_mixRest_19 : decode cX5_mixRest 19 = .ok (.iconst 2, 1) := by decide +kernel
theorem dX5_mixRest_20 : decode cX5_mixRest 20 = .ok (.irem, 1) := by decide +kernel
theorem dX5_mixRest_21 : decode cX5_mixRest 21 = .ok (.invokevirtual 196, 3) := by decide +kernel
theorem dX5_mixRest_24 : decode cX5_mixRest 24 = .ok (.invokevirtual 263, 3) := by decide +kernel
theorem dX5_mixRest_27 : decode cX5_mixRest 27 = .ok (.iinc 2 1, 3) := by decide +kernel
theorem dX5_mixRest_30 : decode cX5_mixRest 30 = .ok (.goto (-28), 3) := by decide +kernel
theorem dX5_mixRest_33 : decode cX5_mixRest 33 = .ok (.aload_n 0, 1) := by decide +kernel
theorem dX5_mixRest_34 : decode cX5_mixRest 34 = .ok (.aload_n 0, 1) := by decide +kernel
theorem dX5_mixRest_35 : decode cX5_mixRest 35 = .ok (.iload_n 1, 1) := by decide +kernel
theorem dX5_mixRest_36 : decode cX5_mixRest 36 = .ok (.invokevirtual 208, 3) := by decide +kernel
theorem dX5_mixRest_39 : decode cX5_mixRest 39 = .ok (.invokevirtual 263, 3) := by decide +kernel
theorem dX5_mixRest_42 : decode cX5_mixRest 42 = .ok (.iconst 0, 1) := by decide +kernel
theorem dX5_mixRest_43 : decode cX5_mixRest 43 = .ok (.istore_n 2, 1) := by decide +kernel
theorem dX5_mixRest_44 : decode cX5_mixRest 44 = .ok (.iload_n 2, 1) := by decide +kernel
theorem dX5_mixRest_45 : decode cX5_mixRest 45 = .ok (.bipush 6, 2) := by decide +kernel
theorem dX5_mixRest_47 : decode cX5_mixRest 47 = .ok (.if_icmp .ge 27, 3) := by decide +kernel
theorem dX5_mixRest_50 : decode cX5_mixRest 50 = .ok (.iload_n 1, 1) := by decide +kernel
theorem dX5_mixRest_51 : decode cX5_mixRest 51 = .ok (.ifCond .ne 23, 3) := by decide +kernel
theorem dX5_mixRest_54 : decode cX5_mixRest 54 = .ok (.aload_n 0, 1) := by decide +kernel
theorem dX5_mixRest_55 : decode cX5_mixRest 55 = .ok (.aload_n 0, 1) := by decide +kernel
theorem dX5_mixRest_56 : decode cX5_mixRest 56 = .ok (.iload_n 2, 1) := by decide +kernel
theorem dX5_mixRest_57 : decode cX5_mixRest 57 = .ok (.iconst 2, 1) := by decide +kernel
theorem dX5_mixRest_58 : decode cX5_mixRest 58 = .ok (.idiv, 1) := by decide +kernel
theorem dX5_mixRest_59 : decode cX5_mixRest 59 = .ok (.iload_n 2, 1) := by decide +kernel
theorem dX5_mixRest_60 : decode cX5_mixRest 60 = .ok (.iconst 2, 1) := by decide +kernel
theorem dX5_mixRest_61 : decode cX5_mixRest 61 = .ok (.irem, 1) := by decide +kernel
theorem dX5_mixRest_62 : decode cX5_mixRest 62 = .ok (.invokevirtual 204, 3) := by decide +kernel
theorem dX5_mixRest_65 : decode cX5_mixRest 65 = .ok (.invokevirtual 263, 3) := by decide +kernel
theorem dX5_mixRest_68 : decode cX5_mixRest 68 = .ok (.iinc 2 1, 3) := by decide +kernel
theorem dX5_mixRest_71 : decode cX5_mixRest 71 = .ok (.goto (-27), 3) := by decide +kernel
theorem dX5_mixRest_74 : decode cX5_mixRest 74 = .ok (.iconst 0, 1) := by decide +kernel
theorem dX5_mixRest_75 : decode cX5_mixRest 75 = .ok (.istore_n 2, 1) := by decide +kernel
theorem dX5_mixRest_76 : decode cX5_mixRest 76 = .ok (.iload_n 2, 1) := by decide +kernel
theorem dX5_mixRest_77 : decode cX5_mixRest 77 = .ok (.iconst 4, 1) := by decide +kernel
theorem dX5_mixRest_78 : decode cX5_mixRest 78 = .ok (.aload_n 0, 1) := by decide +kernel
theorem dX5_mixRest_79 : decode cX5_mixRest 79 = .ok (.getfield 104, 3) := by decide +kernel
theorem dX5_mixRest_82 : decode cX5_mixRest 82 = .ok (.imul, 1) := by decide +kernel
theorem dX5_mixRest_83 : decode cX5_mixRest 83 = .ok (.if_icmp .ge 39, 3) := by decide +kernel
theorem dX5_mixRest_86 : decode cX5_mixRest 86 = .ok (.aload_n 0, 1) := by decide +kernel
theorem dX5_mixRest_87 : decode cX5_mixRest 87 = .ok (.aload_n 0, 1) := by decide +kernel
theorem dX5_mixRest_88 : decode cX5_mixRest 88 = .ok (.iload_n 1, 1) := by decide +kernel
theorem dX5_mixRest_89 : decode cX5_mixRest 89 = .ok (.iconst 1, 1) := by decide +kernel
theorem dX5_mixRest_90 : decode cX5_mixRest 90 = .ok (.iload_n 2, 1) := by decide +kernel
theorem dX5_mixRest_91 : decode cX5_mixRest 91 = .ok (.iconst 2, 1) := by decide +kernel
theorem dX5_mixRest_92 : decode cX5_mixRest 92 = .ok (.idiv, 1) := by decide +kernel
theorem dX5_mixRest_93 : decode cX5_mixRest 93 = .ok (.aload_n 0, 1) := by decide +kernel
theorem dX5_mixRest_94 : decode cX5_mixRest 94 = .ok (.getfield 104, 3) := by decide +kernel
theorem dX5_mixRest_97 : decode cX5_mixRest 97 = .ok (.idiv, 1) := by decide +kernel
theorem dX5_mixRest_98 : decode cX5_mixRest 98 = .ok (.iadd, 1) := by decide +kernel
theorem dX5_mixRest_99 : decode cX5_mixRest 99 = .ok (.iload_n 2, 1) := by decide +kernel
theorem dX5_mixRest_100 : decode cX5_mixRest 100 = .ok (.iconst 2, 1) := by decide +kernel
theorem dX5_mixRest_101 : decode cX5_mixRest 101 = .ok (.idiv, 1) := by decide +kernel
theorem dX5_mixRest_102 : decode cX5_mixRest 102 = .ok (.aload_n 0, 1) := by decide +kernel
theorem dX5_mixRest_103 : decode cX5_mixRest 103 = .ok (.getfield 104, 3) := by decide +kernel
theorem dX5_mixRest_106 : decode cX5_mixRest 106 = .ok (.irem, 1) := by decide +kernel
theorem dX5_mixRest_107 : decode cX5_mixRest 107 = .ok (.iload_n 2, 1) := by decide +kernel
theorem dX5_mixRest_108 : decode cX5_mixRest 108 = .ok (.iconst 2, 1) := by decide +kernel
theorem dX5_mixRest_109 : decode cX5_mixRest 109 = .ok (.irem, 1) := by decide +kernel
theorem dX5_mixRest_110 : decode cX5_mixRest 110 = .ok (.invokevirtual 200, 3) := by decide +kernel
theorem dX5_mixRest_113 : decode cX5_mixRest 113 = .ok (.invokevirtual 263, 3) := by decide +kernel
theorem dX5_mixRest_116 : decode cX5_mixRest 116 = .ok (.iinc 2 1, 3) := by decide +kernel
theorem dX5_mixRest_119 : decode cX5_mixRest 119 = .ok (.goto (-43), 3) := by decide +kernel
theorem dX5_mixRest_122 : decode cX5_mixRest 122 = .ok (.return_, 1) := by decide +kernel
set_option maxRecDepth 20000 in
theorem ggX5_mixPlant_X5_mix : GoodIn wsX5_mixPlant wsX5_mix := goodIn_r _ [7, 8, 9, 169, 170, 171, 172, 173, 174, 175, 176, 177, 178, 179, 180, 181, 182, 183, 184, 185, 186, 187, 188, 189, 190, 191, 192, 193, 194, 195] (by decide +kernel) (by decide +kernel)
set_option maxRecDepth 20000 in
theorem gX5_mixPlant_X5_mix : GoodIn wsX5_mixPlant (wsV RX5 263 RX5 yX5_mix wsX5_mix) := goodIn_app (goodIn_of _ (by decide +kernel)) ggX5_mixPlant_X5_mix
set_option maxRecDepth 20000 in
theorem ggX5_mixPlant_X5_mixRows : GoodIn wsX5_mixPlant wsX5_mixRows := goodIn_r _ [13, 1, 14, 15, 16, 17, 6, 18, 19, 20, 21, 22, 23, 24, 25, 26, 27, 28, 29, 30, 3, 4, 5, 7, 8, 9, 169, 170, 171, 172, 173, 174, 175, 176, 177, 178, 179, 180, 181, 182, 183, 184, 185, 186, 187, 188, 189, 190, 191, 192, 193, 194, 195] (by decide +kernel) (by decide +kernel)
set_option maxRecDepth 20000 in
theorem gX5_mixPlant_X5_mixRows : GoodIn wsX5_mixPlant (wsV RX5 267 RX5 yX5_mixRows wsX5_mixRows) := goodIn_app (goodIn_of _ (by decide +kernel)) ggX5_mixPlant_X5_mixRows
set_option maxRecDepth 20000 in
theorem ggX5_mixPlant_X5_aboutNow : GoodIn wsX5_mixPlant wsX5_aboutNow := goodIn_r _ [34, 35, 36, 37, 6, 38, 1, 14, 15, 16, 17, 18, 19, 20, 21, 22, 23, 24, 25, 26, 27, 28, 29, 30, 39, 40, 41, 42, 43, 44, 45, 46, 47, 48, 49, 50, 51, 52, 53, 54, 55, 56, 57, 58, 59, 60, 61, 62, 63, 64, 65, 66, 2, 67, 68, 69, 70, 71, 72, 73, 74, 75, 76, 77, 78, 79, 169, 170, 171, 172, 173, 174, 175, 176, 177, 178, 179, 180, 181, 182, 183, 184, 185, 186, 187, 188, 189, 190, 191, 192, 193, 194, 195] (by decide +kernel) (by decide +kernel)
set_option maxRecDepth 20000 in
theorem gX5_mixPlant_X5_aboutNow : GoodIn wsX5_mixPlant (wsV RX5 252 RX5 yX5_aboutNow wsX5_aboutNow) := goodIn_app (goodIn_of _ (by decide +kernel)) ggX5_mixPlant_X5_aboutNow
set_option maxRecDepth 20000 in
theorem ggX5_mixPlant_X5_isFull : GoodIn wsX5_mixPlant wsX5_isFull := goodIn_r _ [57, 1, 35, 36, 37, 6, 38, 14, 15, 16, 17, 18, 19, 20, 21, 22, 23, 24, 25, 26, 27, 28, 29, 30, 39, 40, 41, 42, 43, 44, 45, 46, 47, 48, 49, 50, 51, 52, 53, 169, 170, 171, 172, 173, 174, 175, 176, 177, 178, 179, 180, 181, 182, 183, 184, 185, 186, 187, 188, 189, 190, 191, 192, 193, 194, 195] (by decide +kernel) (by decide +kernel)
set_option maxRecDepth 20000 in
theorem gX5_mixPlant_X5_isFull : GoodIn wsX5_mixPlant (wsV RX5 192 RX5 yX5_isFull wsX5_isFull) := goodIn_app (goodIn_of _ (by decide +kernel)) ggX5_mixPlant_X5_isFull
set_option maxRecDepth 20000 in
theorem ggX5_mixPlant_X5_mixRest : GoodIn wsX5_mixPlant wsX5_mixRest := goodIn_r _ [83, 1, 84, 85, 86, 6, 87, 88, 89, 90, 91, 92, 93, 14, 15, 16, 17, 18, 19, 20, 21, 22, 23, 24, 25, 26, 27, 28, 29, 30, 39, 40, 41, 42, 43, 44, 45, 94, 95, 96, 97, 98, 99, 100, 101, 102, 71, 103, 104, 105, 106, 107, 108, 109, 110, 111, 112, 113, 3, 4, 5, 7, 8, 9, 114, 115, 116, 117, 118, 119, 120, 121, 2, 122, 123, 124, 125, 169, 170, 171, 172, 173, 174, 175, 176, 177, 178, 179, 180, 181, 182, 183, 184, 185, 186, 187, 188, 189, 190, 191, 192, 193, 194, 195] (by decide +kernel) (by decide +kernel)
set_option maxRecDepth 20000 in
theorem gX5_mixPlant_X5_mixRest : GoodIn wsX5_mixPlant (wsV RX5 270 RX5 yX5_mixRest wsX5_mixRest) := goodIn_app (goodIn_of _ (by decide +kernel)) ggX5_mixPlant_X5_mixRest
set_option maxRecDepth 20000 in
theorem ggX5_mixPlant_X5_layPlan : GoodIn wsX5_mixPlant wsX5_layPlan := goodIn_r _ [129, 130, 131, 132, 35, 36, 37, 6, 38, 1, 14, 15, 16, 17, 18, 19, 20, 21, 22, 23, 24, 25, 26, 27, 28, 29, 30, 39, 40, 41, 42, 43, 44, 45, 46, 47, 48, 49, 50, 51, 52, 53, 133, 134, 135, 136, 137, 138, 139, 140, 141, 98, 62, 142, 143, 144, 145, 63, 64, 65, 66, 2, 67, 68, 69, 70, 71, 146, 147, 148, 149, 150, 151, 152, 153, 154, 155, 156, 157, 158, 159, 160, 161, 162, 163, 169, 170, 171, 172, 173, 174, 175, 176, 177, 178, 179, 180, 181, 182, 183, 184, 185, 186, 187, 188, 189, 190, 191, 192, 193, 194, 195] (by decide +kernel) (by decide +kernel)
set_option maxRecDepth 20000 in
theorem gX5_mixPlant_X5_layPlan : GoodIn wsX5_mixPlant (wsV RX5 239 RX5 yX5_layPlan wsX5_layPlan) := goodIn_app (goodIn_of _ (by decide +kernel)) ggX5_mixPlant_X5_layPlan
set_option maxRecDepth 20000 in
theorem ggX5_mixPlant_X5_planNow : GoodIn wsX5_mixPlant wsX5_planNow := goodIn_r _ [167, 130, 168, 131, 169, 170, 171, 172, 173, 174, 175, 176, 177, 178, 179, 180, 181, 182, 183, 184, 185, 186, 187, 188, 189, 190, 191, 192, 193, 194, 195] (by decide +kernel) (by decide +kernel)
set_option maxRecDepth 20000 in
theorem gX5_mixPlant_X5_planNow : GoodIn wsX5_mixPlant (wsV RX5 242 RX5 yX5_planNow wsX5_planNow) := goodIn_app (goodIn_of _ (by decide +kernel)) ggX5_mixPlant_X5_planNow
theorem dX5_mixPlant_0 : decode cX5_mixPlant 0 = .ok (.iconst 0, 1) := by decide +kernel
theorem dX5_mixPlant_1 : decode cX5_mixPlant 1 = .ok (.istore_n 1, 1) := by decide +kernel
theorem dX5_mixPlant_2 : decode cX5_mixPlant 2 = .ok (.iload_n 1, 1) := by decide +kernel
theorem dX5_mixPlant_3 : decode cX5_mixPlant 3 = .ok (.aload_n 0, 1) := by decide +kernel
theorem dX5_mixPlant_4 : decode cX5_mixPlant 4 = .ok (.getfield 104, 3) := by decide +kernel
theorem dX5_mixPlant_7 : decode cX5_mixPlant 7 = .ok (.if_icmp .ge 19, 3) := by decide +kernel
theorem dX5_mixPlant_10 : decode cX5_mixPlant 10 = .ok (.aload_n 0, 1) := by decide +kernel
theorem dX5_mixPlant_11 : decode cX5_mixPlant 11 = .ok (.aload_n 0, 1) := by decide +kernel
theorem dX5_mixPlant_12 : decode cX5_mixPlant 12 = .ok (.getfield 16, 3) := by decide +kernel
theorem dX5_mixPlant_15 : decode cX5_mixPlant 15 = .ok (.iload_n 1, 1) := by decide +kernel
theorem dX5_mixPlant_16 : decode cX5_mixPlant 16 = .ok (.laload, 1) := by decide +kernel
theorem dX5_mixPlant_17 : decode cX5_mixPlant 17 = .ok (.invokevirtual 263, 3) := by decide +kernel
theorem dX5_mixPlant_20 : decode cX5_mixPlant 20 = .ok (.iinc 1 1, 3) := by decide +kernel
theorem dX5_mixPlant_23 : decode cX5_mixPlant 23 = .ok (.goto (-21), 3) := by decide +kernel
theorem dX5_mixPlant_26 : decode cX5_mixPlant 26 = .ok (.aload_n 0, 1) := by decide +kernel
theorem dX5_mixPlant_27 : decode cX5_mixPlant 27 = .ok (.iconst 0, 1) := by decide +kernel
theorem dX5_mixPlant_28 : decode cX5_mixPlant 28 = .ok (.invokevirtual 267, 3) := by decide +kernel
theorem dX5_mixPlant_31 : decode cX5_mixPlant 31 = .ok (.aload_n 0, 1) := by decide +kernel
theorem dX5_mixPlant_32 : decode cX5_mixPlant 32 = .ok (.iconst 1, 1) := by decide +kernel
theorem dX5_mixPlant_33 : decode cX5_mixPlant 33 = .ok (.invokevirtual 267, 3) := by decide +kernel
theorem dX5_mixPlant_36 : decode cX5_mixPlant 36 = .ok (.iconst 0, 1) := by decide +kernel
theorem dX5_mixPlant_37 : decode cX5_mixPlant 37 = .ok (.istore_n 1, 1) := by decide +kernel
theorem dX5_mixPlant_38 : decode cX5_mixPlant 38 = .ok (.iload_n 1, 1) := by decide +kernel
theorem dX5_mixPlant_39 : decode cX5_mixPlant 39 = .ok (.bipush 6, 2) := by decide +kernel
theorem dX5_mixPlant_41 : decode cX5_mixPlant 41 = .ok (.if_icmp .ge 18, 3) := by decide +kernel
theorem dX5_mixPlant_44 : decode cX5_mixPlant 44 = .ok (.aload_n 0, 1) := by decide +kernel
theorem dX5_mixPlant_45 : decode cX5_mixPlant 45 = .ok (.aload_n 0, 1) := by decide +kernel
theorem dX5_mixPlant_46 : decode cX5_mixPlant 46 = .ok (.iload_n 1, 1) := by decide +kernel
theorem dX5_mixPlant_47 : decode cX5_mixPlant 47 = .ok (.invokevirtual 252, 3) := by decide +kernel
theorem dX5_mixPlant_50 : decode cX5_mixPlant 50 = .ok (.invokevirtual 263, 3) := by decide +kernel
theorem dX5_mixPlant_53 : decode cX5_mixPlant 53 = .ok (.iinc 1 1, 3) := by decide +kernel
theorem dX5_mixPlant_56 : decode cX5_mixPlant 56 = .ok (.goto (-18), 3) := by decide +kernel
theorem dX5_mixPlant_59 : decode cX5_mixPlant 59 = .ok (.aload_n 0, 1) := by decide +kernel
theorem dX5_mixPlant_60 : decode cX5_mixPlant 60 = .ok (.iconst 0, 1) := by decide +kernel
theorem dX5_mixPlant_61 : decode cX5_mixPlant 61 = .ok (.invokevirtual 192, 3) := by decide +kernel
theorem dX5_mixPlant_64 : decode cX5_mixPlant 64 = .ok (.ifCond .eq 8, 3) := by decide +kernel
theorem dX5_mixPlant_67 : decode cX5_mixPlant 67 = .ok (.aload_n 0, 1) := by decide +kernel
theorem dX5_mixPlant_68 : decode cX5_mixPlant 68 = .ok (.iconst 0, 1) := by decide +kernel
theorem dX5_mixPlant_69 : decode cX5_mixPlant 69 = .ok (.invokevirtual 270, 3) := by decide +kernel
theorem dX5_mixPlant_72 : decode cX5_mixPlant 72 = .ok (.aload_n 0, 1) := by decide +kernel
theorem dX5_mixPlant_73 : decode cX5_mixPlant 73 = .ok (.iconst 1, 1) := by decide +kernel
theorem dX5_mixPlant_74 : decode cX5_mixPlant 74 = .ok (.invokevirtual 192, 3) := by decide +kernel
theorem dX5_mixPlant_77 : decode cX5_mixPlant 77 = .ok (.ifCond .eq 8, 3) := by decide +kernel
theorem dX5_mixPlant_80 : decode cX5_mixPlant 80 = .ok (.aload_n 0, 1) := by decide +kernel
theorem dX5_mixPlant_81 : decode cX5_mixPlant 81 = .ok (.iconst 1, 1) := by decide +kernel
theorem dX5_mixPlant_82 : decode cX5_mixPlant 82 = .ok (.invokevirtual 270, 3) := by decide +kernel
theorem dX5_mixPlant_85 : decode cX5_mixPlant 85 = .ok (.aload_n 0, 1) := by decide +kernel
theorem dX5_mixPlant_86 : decode cX5_mixPlant 86 = .ok (.invokevirtual 239, 3) := by decide +kernel
theorem dX5_mixPlant_89 : decode cX5_mixPlant 89 = .ok (.aload_n 0, 1) := by decide +kernel
theorem dX5_mixPlant_90 : decode cX5_mixPlant 90 = .ok (.aload_n 0, 1) := by decide +kernel
theorem dX5_mixPlant_91 : decode cX5_mixPlant 91 = .ok (.iconst 0, 1) := by decide +kernel
theorem dX5_mixPlant_92 : decode cX5_mixPlant 92 = .ok (.invokevirtual 242, 3) := by decide +kernel
theorem dX5_mixPlant_95 : decode cX5_mixPlant 95 = .ok (.invokevirtual 263, 3) := by decide +kernel
theorem dX5_mixPlant_98 : decode cX5_mixPlant 98 = .ok (.bipush 10, 2) := by decide +kernel
theorem dX5_mixPlant_100 : decode cX5_mixPlant 100 = .ok (.istore_n 1, 1) := by decide +kernel
theorem dX5_mixPlant_101 : decode cX5_mixPlant 101 = .ok (.iload_n 1, 1) := by decide +kernel
theorem dX5_mixPlant_102 : decode cX5_mixPlant 102 = .ok (.bipush 16, 2) := by decide +kernel
theorem dX5_mixPlant_104 : decode cX5_mixPlant 104 = .ok (.if_icmp .ge 18, 3) := by decide +kernel
theorem dX5_mixPlant_107 : decode cX5_mixPlant 107 = .ok (.aload_n 0, 1) := by decide +kernel
theorem dX5_mixPlant_108 : decode cX5_mixPlant 108 = .ok (.aload_n 0, 1) := by decide +kernel
theorem dX5_mixPlant_109 : decode cX5_mixPlant 109 = .ok (.iload_n 1, 1) := by decide +kernel
theorem dX5_mixPlant_110 : decode cX5_mixPlant 110 = .ok (.invokevirtual 242, 3) := by decide +kernel
theorem dX5_mixPlant_113 : decode cX5_mixPlant 113 = .ok (.invokevirtual 263, 3) := by decide +kernel
theorem dX5_mixPlant_116 : decode cX5_mixPlant 116 = .ok (.iinc 1 1, 3) := by decide +kernel
theorem dX5_mixPlant_119 : decode cX5_mixPlant 119 = .ok (.goto (-18), 3) := by decide +kernel
theorem dX5_mixPlant_122 : decode cX5_mixPlant 122 = .ok (.return_, 1) := by decide +kernel
set_option maxRecDepth 20000 in
theorem ggX5_digest_X5_isThere : GoodIn wsX5_digest wsX5_isThere := goodIn_r _ [11, 12, 13, 10, 14, 15, 16, 17, 18, 4, 187, 188, 189, 190, 191, 192, 193, 194, 195, 196, 197, 198, 199, 200, 201, 202, 203, 204, 205, 206, 207, 208, 209, 210, 211, 212, 213] (by decide +kernel) (by decide +kernel)
set_option maxRecDepth 20000 in
theorem gX5_digest_X5_isThere : GoodIn wsX5_digest (wsV RX5 107 RX5 yX5_isThere wsX5_isThere) := goodIn_app (goodIn_of _ (by decide +kernel)) ggX5_digest_X5_isThere
set_option maxRecDepth 20000 in
theorem ggX5_digest_X5_mix : GoodIn wsX5_digest wsX5_mix := goodIn_r _ [22, 23, 2, 187, 188, 189, 190, 191, 192, 193, 194, 195, 196, 197, 198, 199, 200, 201, 202, 203, 204, 205, 206, 207, 208, 209, 210, 211, 212, 213] (by decide +kernel) (by decide +kernel)
set_option maxRecDepth 20000 in
theorem gX5_digest_X5_mix : GoodIn wsX5_digest (wsV RX5 263 RX5 yX5_mix wsX5_mix) := goodIn_app (goodIn_of _ (by decide +kernel)) ggX5_digest_X5_mix
set_option maxRecDepth 20000 in
theorem ggX5_digest_X5_mixPlant : GoodIn wsX5_digest wsX5_mixPlant := goodIn_r _ [27, 4, 28, 19, 20, 21, 10, 22, 23, 2, 29, 30, 31, 32, 33, 34, 35, 36, 37, 3, 15, 16, 17, 18, 12, 13, 14, 38, 39, 40, 41, 42, 43, 44, 45, 46, 47, 48, 49, 50, 51, 52, 53, 54, 55, 56, 57, 58, 59, 60, 61, 62, 63, 64, 65, 66, 67, 68, 69, 70, 71, 72, 73, 74, 75, 76, 77, 78, 79, 80, 81, 82, 83, 84, 85, 86, 87, 88, 89, 90, 91, 92, 93, 94, 95, 96, 97, 98, 99, 100, 101, 102, 103, 104, 105, 106, 107, 108, 109, 110, 111, 112, 113, 114, 115, 116, 117, 118, 119, 120, 121, 122, 123, 124, 125, 126, 127, 128, 129, 130, 131, 132, 133, 134, 135, 136, 137, 138, 139, 140, 141, 142, 143, 144, 145, 146, 147, 148, 149, 150, 151, 152, 153, 154, 155, 156, 157, 158, 159, 160, 161, 162, 163, 164, 165, 166, 167, 168, 169, 170, 171, 172, 173, 174, 175, 176, 177, 178, 179, 187, 188, 189, 190, 191, 192, 193, 194, 195, 196, 197, 198, 199, 200, 201, 202, 203, 204, 205, 206, 207, 208, 209, 210, 211, 212, 213] (by decide +kernel) (by decide +kernel)
set_option maxRecDepth 20000 in
theorem gX5_digest_X5_mixPlant : GoodIn wsX5_digest (wsV RX5 275 RX5 yX5_mixPlant wsX5_mixPlant) := goodIn_app (goodIn_of _ (by decide +kernel)) ggX5_digest_X5_mixPlant
