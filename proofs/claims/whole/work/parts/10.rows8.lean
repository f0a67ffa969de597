set_option maxRecDepth 20000 in
theorem ggX5_digest_X5_howMany : GoodIn wsX5_digest wsX5_howMany := goodIn_r _ [183, 4, 5, 148, 184, 185, 186, 187, 188, 189, 190, 191, 192, 193, 194, 195, 196, 197, 198, 199, 200, 201, 202, 203, 204, 205, 206, 207, 208, 209, 210, 211, 212, 213] (by decide +kernel) (by decide +kernel)
set_option maxRecDepth 20000 in
theorem gX5_digest_X5_howMany : GoodIn wsX5_digest (wsV RX5 255 RX5 yX5_howMany wsX5_howMany) := goodIn_app (goodIn_of _ (by decide +kernel)) ggX5_digest_X5_howMany
theorem dX5_digest_0 : decode cX5_digest 0 = .ok (.aload_n 0, 1) := by decide +kernel
theorem dX5_digest_1 : decode cX5_digest 1 = .ok (.ldc2_w 273, 3) := by decide +kernel
theorem dX5_digest_4 : decode cX5_digest 4 = .ok (.putfield 260, 3) := by decide +kernel
theorem dX5_digest_7 : decode cX5_digest 7 = .ok (.iconst 0, 1) := by decide +kernel
theorem dX5_digest_8 : decode cX5_digest 8 = .ok (.istore_n 1, 1) := by decide +kernel
theorem dX5_digest_9 : decode cX5_digest 9 = .ok (.iload_n 1, 1) := by decide +kernel
theorem dX5_digest_10 : decode cX5_digest 10 = .ok (.bipush 15, 2) := by decide +kernel
theorem dX5_digest_12 : decode cX5_digest 12 = .ok (.if_icmp .ge 28, 3) := by decide +kernel
theorem dX5_digest_15 : decode cX5_digest 15 = .ok (.aload_n 0, 1) := by decide +kernel
theorem dX5_digest_16 : decode cX5_digest 16 = .ok (.iload_n 1, 1) := by decide +kernel
theorem dX5_digest_17 : decode cX5_digest 17 = .ok (.invokevirtual 107, 3) := by decide +kernel
theorem dX5_digest_20 : decode cX5_digest 20 = .ok (.ifCond .eq 14, 3) := by decide +kernel
theorem dX5_digest_23 : decode cX5_digest 23 = .ok (.aload_n 0, 1) := by decide +kernel
theorem dX5_digest_24 : decode cX5_digest 24 = .ok (.aload_n 0, 1) := by decide +kernel
theorem dX5_digest_25 : decode cX5_digest 25 = .ok (.getfield 13, 3) := by decide +kernel
theorem dX5_digest_28 : decode cX5_digest 28 = .ok (.iload_n 1, 1) := by decide +kernel
theorem dX5_digest_29 : decode cX5_digest 29 = .ok (.iaload, 1) := by decide +kernel
theorem dX5_digest_30 : decode cX5_digest 30 = .ok (.i2l, 1) := by decide +kernel
theorem dX5_digest_31 : decode cX5_digest 31 = .ok (.invokevirtual 263, 3) := by decide +kernel
theorem dX5_digest_34 : decode cX5_digest 34 = .ok (.iinc 1 1, 3) := by decide +kernel
theorem dX5_digest_37 : decode cX5_digest 37 = .ok (.goto (-28), 3) := by decide +kernel
theorem dX5_digest_40 : decode cX5_digest 40 = .ok (.aload_n 0, 1) := by decide +kernel
theorem dX5_digest_41 : decode cX5_digest 41 = .ok (.getfield 104, 3) := by decide +kernel
theorem dX5_digest_44 : decode cX5_digest 44 = .ok (.ifCond .le 7, 3) := by decide +kernel
theorem dX5_digest_47 : decode cX5_digest 47 = .ok (.aload_n 0, 1) := by decide +kernel
theorem dX5_digest_48 : decode cX5_digest 48 = .ok (.invokevirtual 275, 3) := by decide +kernel
theorem dX5_digest_51 : decode cX5_digest 51 = .ok (.iconst 0, 1) := by decide +kernel
theorem dX5_digest_52 : decode cX5_digest 52 = .ok (.istore_n 1, 1) := by decide +kernel
theorem dX5_digest_53 : decode cX5_digest 53 = .ok (.iload_n 1, 1) := by decide +kernel
theorem dX5_digest_54 : decode cX5_digest 54 = .ok (.aload_n 0, 1) := by decide +kernel
theorem dX5_digest_55 : decode cX5_digest 55 = .ok (.getfield 63, 3) := by decide +kernel
theorem dX5_digest_58 : decode cX5_digest 58 = .ok (.if_icmp .ge 20, 3) := by decide +kernel
theorem dX5_digest_61 : decode cX5_digest 61 = .ok (.aload_n 0, 1) := by decide +kernel
theorem dX5_digest_62 : decode cX5_digest 62 = .ok (.aload_n 0, 1) := by decide +kernel
theorem dX5_digest_63 : decode cX5_digest 63 = .ok (.getfield 7, 3) := by decide +kernel
theorem dX5_digest_66 : decode cX5_digest 66 = .ok (.iload_n 1, 1) := by decide +kernel
theorem dX5_digest_67 : decode cX5_digest 67 = .ok (.iaload, 1) := by decide +kernel
theorem dX5_digest_68 : decode cX5_digest 68 = .ok (.i2l, 1) := by decide +kernel
theorem dX5_digest_69 : decode cX5_digest 69 = .ok (.invokevirtual 263, 3) := by decide +kernel
theorem dX5_digest_72 : decode cX5_digest 72 = .ok (.iinc 1 1, 3) := by decide +kernel
theorem dX5_digest_75 : decode cX5_digest 75 = .ok (.goto (-22), 3) := by decide +kernel
theorem dX5_digest_78 : decode cX5_digest 78 = .ok (.iconst 0, 1) := by decide +kernel
theorem dX5_digest_79 : decode cX5_digest 79 = .ok (.istore_n 1, 1) := by decide +kernel
theorem dX5_digest_80 : decode cX5_digest 80 = .ok (.iload_n 1, 1) := by decide +kernel
theorem dX5_digest_81 : decode cX5_digest 81 = .ok (.iconst 5, 1) := by decide +kernel
theorem dX5_digest_82 : decode cX5_digest 82 = .ok (.if_icmp .ge 18, 3) := by decide +kernel
theorem dX5_digest_85 : decode cX5_digest 85 = .ok (.aload_n 0, 1) := by decide +kernel
theorem dX5_digest_86 : decode cX5_digest 86 = .ok (.aload_n 0, 1) := by decide +kernel
theorem dX5_digest_87 : decode cX5_digest 87 = .ok (.iload_n 1, 1) := by decide +kernel
theorem dX5_digest_88 : decode cX5_digest 88 = .ok (.invokevirtual 255, 3) := by decide +kernel
theorem dX5_digest_91 : decode cX5_digest 91 = .ok (.invokevirtual 263, 3) := by decide +kernel
theorem dX5_digest_94 : decode cX5_digest 94 = .ok (.iinc 1 1, 3) := by decide +kernel
theorem dX5_digest_97 : decode cX5_digest 97 = .ok (.goto (-17), 3) := by decide +kernel
theorem dX5_digest_100 : decode cX5_digest 100 = .ok (.aload_n 0, 1) := by decide +kernel
theorem dX5_digest_101 : decode cX5_digest 101 = .ok (.getfield 260, 3) := by decide +kernel
theorem dX5_digest_104 : decode cX5_digest 104 = .ok (.lreturn, 1) := by decide +kernel
theorem dJ9_abs_067f4_0 : decode cJ9_abs_067f4 0 = .ok (.lload_n 0, 1) := by decide +kernel
theorem dJ9_abs_067f4_1 : decode cJ9_abs_067f4 1 = .ok (.lconst 0, 1) := by decide +kernel
theorem dJ9_abs_067f4_2 : decode cJ9_abs_067f4 2 = .ok (.lcmp, 1) := by decide +kernel
theorem dJ9_abs_067f4_3 : decode cJ9_abs_067f4 3 = .ok (.ifCond .ge 8, 3) := by decide +kernel
theorem dJ9_abs_067f4_6 : decode cJ9_abs_067f4 6 = .ok (.lload_n 0, 1) := by decide +kernel
theorem dJ9_abs_067f4_7 : decode cJ9_abs_067f4 7 = .ok (.lneg, 1) := by decide +kernel
theorem dJ9_abs_067f4_8 : decode cJ9_abs_067f4 8 = .ok (.goto 4, 3) := by decide +kernel
theorem dJ9_abs_067f4_11 : decode cJ9_abs_067f4 11 = .ok (.lload_n 0, 1) := by decide +kernel
theorem dJ9_abs_067f4_12 : decode cJ9_abs_067f4 12 = .ok (.lreturn, 1) := by decide +kernel
theorem dJ9_min_7cf53_0 : decode cJ9_min_7cf53 0 = .ok (.iload_n 0, 1) := by decide +kernel
theorem dJ9_min_7cf53_1 : decode cJ9_min_7cf53 1 = .ok (.iload_n 1, 1) := by decide +kernel
theorem dJ9_min_7cf53_2 : decode cJ9_min_7cf53 2 = .ok (.if_icmp .gt 7, 3) := by decide +kernel
theorem dJ9_min_7cf53_5 : decode cJ9_min_7cf53 5 = .ok (.iload_n 0, 1) := by decide +kernel
theorem dJ9_min_7cf53_6 : decode cJ9_min_7cf53 6 = .ok (.goto 4, 3) := by decide +kernel
theorem dJ9_min_7cf53_9 : decode cJ9_min_7cf53 9 = .ok (.iload_n 1, 1) := by decide +kernel
theorem dJ9_min_7cf53_10 : decode cJ9_min_7cf53 10 = .ok (.ireturn, 1) := by decide +kernel
set_option maxRecDepth 20000 in
theorem ggL_law_X4_init : GoodIn wsL_law wsX4_init := goodIn_r _ [8, 9, 10, 11, 12, 13, 14, 15, 16, 17, 18, 19, 20, 21, 22, 23, 24, 25, 26, 27, 28, 29, 30, 31, 32, 33, 34, 35, 36, 37, 38, 39, 40, 41, 42, 43, 44, 45, 46, 47, 48, 49, 50, 51, 52, 53, 54, 55, 56, 57, 58, 59, 60, 61, 62, 63, 64, 65, 66, 67, 68, 69, 70, 71, 72, 73, 74, 75, 76, 77, 692, 693, 694, 695, 696, 697, 653, 654, 655, 656, 657, 658, 659, 660, 661, 662, 663, 664, 698, 699, 700, 701, 702, 703, 704, 705, 706, 707, 708, 709, 710, 711, 712, 713, 714, 715, 716] (by decide +kernel) (by decide +kernel)
set_option maxRecDepth 20000 in
theorem gL_law_X4_init : GoodIn wsL_law (wsX4_init) := ggL_law_X4_init
set_option maxRecDepth 20000 in
theorem ggL_law_X5_init : GoodIn wsL_law wsX5_init := goodIn_r _ [80, 81, 10, 11, 40, 82, 83, 29, 84, 85, 86, 87, 88, 89, 90, 91, 92, 93, 94, 95, 96, 665, 666, 667, 668, 669, 670, 671, 672, 673, 674, 675, 676, 677, 678, 679, 680, 681, 682, 683, 684, 685, 686, 687, 688, 689, 690, 691] (by decide +kernel) (by decide +kernel)
set_option maxRecDepth 20000 in
theorem gL_law_X5_init : GoodIn wsL_law (wsX5_init) := ggL_law_X5_init
set_option maxRecDepth 20000 in
theorem ggL_law_X4_letter : GoodIn wsL_law wsX4_letter := goodIn_r _ [100, 101, 15, 102, 103, 104, 105, 106, 14, 107, 42, 41, 653, 654, 655, 656, 657, 658, 659, 660, 661, 662, 663, 664, 692, 693, 694, 695, 696, 697] (by decide +kernel) (by decide +kernel)
set_option maxRecDepth 20000 in
theorem gL_law_X4_letter : GoodIn wsL_law (wsV RL 13 RX4 yX4_letter wsX4_letter) := goodIn_app (goodIn_of _ (by decide +kernel)) ggL_law_X4_letter
set_option maxRecDepth 20000 in
theorem ggL_law_X5_letter : GoodIn wsL_law wsX5_letter := goodIn_r _ [111, 112, 113, 114, 82, 115, 116, 5, 117, 665, 666, 667, 668, 669, 670, 671, 672, 673, 674, 675, 676, 677, 678, 679, 680, 681, 682, 683, 684, 685, 686, 687, 688, 689, 690, 691] (by decide +kernel) (by decide +kernel)
set_option maxRecDepth 20000 in
theorem gL_law_X5_letter : GoodIn wsL_law (wsV RL 17 RX5 yX5_letter wsX5_letter) := goodIn_app (goodIn_of _ (by decide +kernel)) ggL_law_X5_letter
set_option maxRecDepth 20000 in
theorem ggL_law_X4_blank : GoodIn wsL_law wsX4_blank := goodIn_r _ [121, 15, 102, 653, 654, 655, 656, 657, 658, 659, 660, 661, 662, 663, 664, 692, 693, 694, 695, 696, 697] (by decide +kernel) (by decide +kernel)
set_option maxRecDepth 20000 in
theorem gL_law_X4_blank : GoodIn wsL_law (wsV RL 18 RX4 yX4_blank wsX4_blank) := goodIn_app (goodIn_of _ (by decide +kernel)) ggL_law_X4_blank
set_option maxRecDepth 20000 in
theorem ggL_law_X5_blank : GoodIn wsL_law wsX5_blank := goodIn_r _ [125, 113, 665, 666, 667, 668, 669, 670, 671, 672, 673, 674, 675, 676, 677, 678, 679, 680, 681, 682, 683, 684, 685, 686, 687, 688, 689, 690, 691] (by decide +kernel) (by decide +kernel)
set_option maxRecDepth 20000 in
theorem gL_law_X5_blank : GoodIn wsL_law (wsV RL 22 RX5 yX5_blank wsX5_blank) := goodIn_app (goodIn_of _ (by decide +kernel)) ggL_law_X5_blank
set_option maxRecDepth 20000 in
theorem ggL_law_X4_fault : GoodIn wsL_law wsX4_fault := goodIn_r _ [129, 15, 130, 131, 132, 14, 133, 44, 45, 46, 42, 41, 134, 135, 136, 137, 138, 139, 140, 141, 142, 143, 144, 145, 146, 147, 148, 149, 150, 151, 152, 153, 154, 155, 156, 157, 43, 158, 159, 160, 161, 653, 654, 655, 656, 657, 658, 659, 660, 661, 662, 663, 664, 692, 693, 694, 695, 696, 697] (by decide +kernel) (by decide +kernel)
set_option maxRecDepth 20000 in
theorem gL_law_X4_fault : GoodIn wsL_law (wsV RL 23 RX4 yX4_fault wsX4_fault) := goodIn_app (goodIn_of _ (by decide +kernel)) ggL_law_X4_fault
set_option maxRecDepth 20000 in
theorem ggL_law_X5_fault : GoodIn wsL_law wsX5_fault := goodIn_r _ [165, 166, 167, 168, 5, 169, 170, 171, 172, 173, 174, 113, 82, 175, 176, 177, 178, 115, 116, 117, 179, 180, 181, 182, 183, 184, 185, 186, 187, 188, 189, 190, 86, 665, 666, 667, 668, 669, 670, 671, 672, 673, 674, 675, 676, 677, 678, 679, 680, 681, 682, 683, 684, 685, 686, 687, 688, 689, 690, 691] (by decide +kernel) (by decide +kernel)
set_option maxRecDepth 20000 in
theorem gL_law_X5_fault : GoodIn wsL_law (wsV RL 26 RX5 yX5_fault wsX5_fault) := goodIn_app (goodIn_of _ (by decide +kernel)) ggL_law_X5_fault
set_option maxRecDepth 20000 in
theorem ggL_law_X4_plant : GoodIn wsL_law wsX4_plant := goodIn_r _ [194, 15, 195, 19, 102, 30, 34, 196, 197, 198, 199, 14, 200, 42, 44, 45, 201, 131, 132, 133, 46, 41, 134, 135, 136, 137, 138, 139, 140, 141, 142, 143, 144, 145, 146, 147, 148, 149, 150, 151, 152, 153, 154, 155, 156, 157, 43, 158, 159, 160, 161, 202, 203, 204, 205, 206, 207, 208, 209, 210, 18, 211, 51, 212, 213, 214, 2, 215, 23, 24, 36, 216, 217, 218, 22, 219, 58, 220, 65, 62, 63, 61, 221, 222, 223, 224, 50, 225, 226, 227, 228, 64, 60, 229, 230, 231, 232, 233, 234, 235, 236, 237, 238, 239, 240, 241, 242, 243, 59, 244, 245, 246, 247, 52, 248, 249, 250, 251, 252, 653, 654, 655, 656, 657, 658, 659, 660, 661, 662, 663, 664, 692, 693, 694, 695, 696, 697, 698, 699, 700, 701, 702, 703, 704, 705, 706, 707, 708] (by decide +kernel) (by decide +kernel)
set_option maxRecDepth 20000 in
theorem gL_law_X4_plant : GoodIn wsL_law (wsV RL 27 RX4 yX4_plant wsX4_plant) := goodIn_app (goodIn_of _ (by decide +kernel)) ggL_law_X4_plant
set_option maxRecDepth 20000 in
theorem ggL_law_X5_plant : GoodIn wsL_law wsX5_plant := goodIn_r _ [256, 113, 171, 172, 170, 173, 257, 258, 83, 86, 84, 259, 166, 167, 168, 5, 169, 174, 82, 175, 176, 177, 178, 115, 116, 117, 179, 180, 181, 182, 183, 184, 185, 186, 187, 188, 189, 190, 260, 261, 262, 263, 264, 265, 266, 267, 665, 666, 667, 668, 669, 670, 671, 672, 673, 674, 675, 676, 677, 678, 679, 680, 681, 682, 683, 684, 685, 686, 687, 688, 689, 690, 691] (by decide +kernel) (by decide +kernel)
set_option maxRecDepth 20000 in
theorem gL_law_X5_plant : GoodIn wsL_law (wsV RL 30 RX5 yX5_plant wsX5_plant) := goodIn_app (goodIn_of _ (by decide +kernel)) ggL_law_X5_plant
set_option maxRecDepth 20000 in
theorem ggL_law_X4_alter : GoodIn wsL_law wsX4_alter := goodIn_r _ [271, 19, 272, 101, 273, 274, 209, 210, 18, 211, 51, 212, 213, 214, 2, 215, 23, 24, 36, 216, 217, 218, 22, 219, 58, 220, 65, 62, 63, 61, 221, 222, 223, 224, 50, 225, 226, 227, 228, 64, 60, 229, 230, 231, 232, 233, 234, 235, 236, 237, 238, 239, 240, 241, 242, 243, 59, 244, 245, 246, 247, 52, 248, 249, 250, 251, 252, 653, 654, 655, 656, 657, 658, 659, 660, 661, 662, 663, 664, 698, 699, 700, 701, 702, 703, 704, 705, 706, 707, 708] (by decide +kernel) (by decide +kernel)
set_option maxRecDepth 20000 in
theorem gL_law_X4_alter : GoodIn wsL_law (wsV RL 31 RX4 yX4_alter wsX4_alter) := goodIn_app (goodIn_of _ (by decide +kernel)) ggL_law_X4_alter
set_option maxRecDepth 20000 in
theorem ggL_law_X5_alter : GoodIn wsL_law wsX5_alter := goodIn_r _ [278, 279, 112, 83, 260, 261, 262, 5, 263, 115, 116, 117, 264, 265, 266, 267, 258, 665, 666, 667, 668, 669, 670, 671, 672, 673, 674, 675, 676, 677, 678, 679, 680, 681, 682, 683, 684, 685, 686, 687, 688, 689, 690, 691] (by decide +kernel) (by decide +kernel)
set_option maxRecDepth 20000 in
theorem gL_law_X5_alter : GoodIn wsL_law (wsV RL 35 RX5 yX5_alter wsX5_alter) := goodIn_app (goodIn_of _ (by decide +kernel)) ggL_law_X5_alter
set_option maxRecDepth 20000 in
theorem ggL_law_X4_has : GoodIn wsL_law wsX4_has := goodIn_r _ [283, 19, 273, 272, 274, 209, 210, 18, 211, 51, 653, 654, 655, 656, 657, 658, 659, 660, 661, 662, 663, 664, 698, 699, 700] (by decide +kernel) (by decide +kernel)
set_option maxRecDepth 20000 in
theorem gL_law_X4_has : GoodIn wsL_law (wsV RL 36 RX4 yX4_has wsX4_has) := goodIn_app (goodIn_of _ (by decide +kernel)) ggL_law_X4_has
set_option maxRecDepth 20000 in
theorem ggL_law_X5_has : GoodIn wsL_law wsX5_has := goodIn_r _ [287, 83, 279, 260, 261, 262, 5, 263, 115, 116, 117, 264, 265, 266, 267, 258, 665, 666, 667, 668, 669, 670, 671, 672, 673, 674, 675, 676, 677, 678, 679, 680, 681, 682, 683, 684, 685, 686, 687, 688, 689, 690, 691] (by decide +kernel) (by decide +kernel)
set_option maxRecDepth 20000 in
theorem gL_law_X5_has : GoodIn wsL_law (wsV RL 39 RX5 yX5_has wsX5_has) := goodIn_app (goodIn_of _ (by decide +kernel)) ggL_law_X5_has
set_option maxRecDepth 20000 in
theorem ggL_law_X4_start : GoodIn wsL_law wsX4_start := goodIn_r _ [291, 19, 272, 101, 30, 36, 292, 293, 294, 18, 295, 51, 653, 654, 655, 656, 657, 658, 659, 660, 661, 662, 663, 664, 698, 699, 700] (by decide +kernel) (by decide +kernel)
set_option maxRecDepth 20000 in
theorem gL_law_X4_start : GoodIn wsL_law (wsV RL 40 RX4 yX4_start wsX4_start) := goodIn_app (goodIn_of _ (by decide +kernel)) ggL_law_X4_start
set_option maxRecDepth 20000 in
theorem ggL_law_X5_start : GoodIn wsL_law wsX5_start := goodIn_r _ [299, 279, 112, 84, 264, 265, 266, 5, 267, 258, 115, 116, 117, 665, 666, 667, 668, 669, 670, 671, 672, 673, 674, 675, 676, 677, 678, 679, 680, 681, 682, 683, 684, 685, 686, 687, 688, 689, 690, 691] (by decide +kernel) (by decide +kernel)
set_option maxRecDepth 20000 in
theorem gL_law_X5_start : GoodIn wsL_law (wsV RL 43 RX5 yX5_start wsX5_start) := goodIn_app (goodIn_of _ (by decide +kernel)) ggL_law_X5_start
set_option maxRecDepth 20000 in
theorem ggL_law_X4_limit : GoodIn wsL_law wsX4_limit := goodIn_r _ [303, 101, 33, 36, 653, 654, 655, 656, 657, 658, 659, 660, 661, 662, 663, 664] (by decide +kernel) (by decide +kernel)
set_option maxRecDepth 20000 in
theorem gL_law_X4_limit : GoodIn wsL_law (wsV RL 44 RX4 yX4_limit wsX4_limit) := goodIn_app (goodIn_of _ (by decide +kernel)) ggL_law_X4_limit
set_option maxRecDepth 20000 in
theorem ggL_law_X5_limit : GoodIn wsL_law wsX5_limit := goodIn_r _ [307, 112, 85, 115, 116, 5, 117, 665, 666, 667, 668, 669, 670, 671, 672, 673, 674, 675, 676, 677, 678, 679, 680, 681, 682, 683, 684, 685, 686, 687, 688, 689, 690, 691] (by decide +kernel) (by decide +kernel)
set_option maxRecDepth 20000 in
theorem gL_law_X5_limit : GoodIn wsL_law (wsV RL 47 RX5 yX5_limit wsX5_limit) := goodIn_app (goodIn_of _ (by decide +kernel)) ggL_law_X5_limit
set_option maxRecDepth 20000 in
theorem ggL_law_X4_tick : GoodIn wsL_law wsX4_tick := goodIn_r _ [311, 19, 196, 195, 101, 30, 32, 273, 312, 313, 35, 36, 314, 222, 223, 18, 224, 50, 315, 231, 2, 232, 316, 317, 318, 319, 653, 654, 655, 656, 657, 658, 659, 660, 661, 662, 663, 664, 698, 699, 700] (by decide +kernel) (by decide +kernel)
set_option maxRecDepth 20000 in
theorem gL_law_X4_tick : GoodIn wsL_law (wsV RL 48 RX4 yX4_tick wsX4_tick) := goodIn_app (goodIn_of _ (by decide +kernel)) ggL_law_X4_tick
set_option maxRecDepth 20000 in
theorem ggL_law_X5_tick : GoodIn wsL_law wsX5_tick := goodIn_r _ [323, 258, 257, 112, 88, 324, 325, 84, 326, 115, 116, 5, 117, 327, 328, 329, 330, 331, 332, 333, 334, 87, 83, 335, 336, 337, 338, 665, 666, 667, 668, 669, 670, 671, 672, 673, 674, 675, 676, 677, 678, 679, 680, 681, 682, 683, 684, 685, 686, 687, 688, 689, 690, 691] (by decide +kernel) (by decide +kernel)
set_option maxRecDepth 20000 in
theorem gL_law_X5_tick : GoodIn wsL_law (wsV RL 51 RX5 yX5_tick wsX5_tick) := goodIn_app (goodIn_of _ (by decide +kernel)) ggL_law_X5_tick
set_option maxRecDepth 20000 in
theorem ggL_law_X4_row : GoodIn wsL_law wsX4_row := goodIn_r _ [342, 19, 272, 343, 292, 293, 294, 18, 295, 51, 344, 345, 346, 2, 347, 24, 23, 653, 654, 655, 656, 657, 658, 659, 660, 661, 662, 663, 664, 701, 702, 703, 704, 705, 706, 707, 708, 698, 699, 700] (by decide +kernel) (by decide +kernel)
set_option maxRecDepth 20000 in
theorem gL_law_X4_row : GoodIn wsL_law (wsV RL 52 RX4 yX4_row wsX4_row) := goodIn_app (goodIn_of _ (by decide +kernel)) ggL_law_X4_row
set_option maxRecDepth 20000 in
theorem ggL_law_X5_row : GoodIn wsL_law wsX5_row := goodIn_r _ [351, 279, 89, 264, 265, 266, 5, 267, 258, 115, 116, 117, 352, 353, 354, 355, 83, 356, 357, 358, 359, 665, 666, 667, 668, 669, 670, 671, 672, 673, 674, 675, 676, 677, 678, 679, 680, 681, 682, 683, 684, 685, 686, 687, 688, 689, 690, 691] (by decide +kernel) (by decide +kernel)
set_option maxRecDepth 20000 in
theorem gL_law_X5_row : GoodIn wsL_law (wsV RL 56 RX5 yX5_row wsX5_row) := goodIn_app (goodIn_of _ (by decide +kernel)) ggL_law_X5_row
set_option maxRecDepth 20000 in
theorem ggL_law_X4_about : GoodIn wsL_law wsX4_about := goodIn_r _ [363, 19, 196, 195, 23, 364, 24, 30, 101, 365, 366, 367, 2, 368, 369, 370, 371, 372, 31, 315, 231, 232, 373, 245, 246, 18, 247, 52, 248, 222, 223, 224, 50, 374, 375, 376, 22, 377, 249, 250, 251, 252, 63, 233, 234, 316, 317, 318, 319, 653, 654, 655, 656, 657, 658, 659, 660, 661, 662, 663, 664, 698, 699, 700, 701, 702, 703, 704, 705, 706, 707, 708] (by decide +kernel) (by decide +kernel)
set_option maxRecDepth 20000 in
theorem gL_law_X4_about : GoodIn wsL_law (wsV RL 57 RX4 yX4_about wsX4_about) := goodIn_app (goodIn_of _ (by decide +kernel)) ggL_law_X4_about
set_option maxRecDepth 20000 in
theorem ggL_law_X5_about : GoodIn wsL_law wsX5_about := goodIn_r _ [381, 258, 257, 112, 115, 116, 5, 117, 382, 383, 384, 385, 386, 387, 388, 389, 89, 352, 353, 354, 355, 83, 264, 265, 266, 267, 356, 357, 358, 359, 390, 391, 392, 393, 394, 395, 396, 397, 398, 399, 400, 401, 402, 403, 404, 405, 406, 407, 408, 409, 410, 411, 412, 88, 327, 328, 329, 330, 84, 331, 332, 333, 334, 87, 413, 414, 415, 416, 335, 336, 337, 338, 665, 666, 667, 668, 669, 670, 671, 672, 673, 674, 675, 676, 677, 678, 679, 680, 681, 682, 683, 684, 685, 686, 687, 688, 689, 690, 691] (by decide +kernel) (by decide +kernel)
set_option maxRecDepth 20000 in
theorem gL_law_X5_about : GoodIn wsL_law (wsV RL 60 RX5 yX5_about wsX5_about) := goodIn_app (goodIn_of _ (by decide +kernel)) ggL_law_X5_about
set_option maxRecDepth 20000 in
theorem ggL_law_X4_gain : GoodIn wsL_law wsX4_gain := goodIn_r _ [420, 19, 272, 101, 421, 422, 195, 292, 293, 294, 18, 295, 51, 423, 424, 2, 425, 344, 345, 346, 347, 24, 23, 365, 366, 367, 368, 196, 364, 426, 427, 428, 429, 430, 431, 432, 433, 434, 435, 436, 437, 438, 653, 654, 655, 656, 657, 658, 659, 660, 661, 662, 663, 664, 701, 702, 703, 704, 705, 706, 707, 708, 698, 699, 700] (by decide +kernel) (by decide +kernel)
set_option maxRecDepth 20000 in
theorem gL_law_X4_gain : GoodIn wsL_law (wsV RL 61 RX4 yX4_gain wsX4_gain) := goodIn_app (goodIn_of _ (by decide +kernel)) ggL_law_X4_gain
set_option maxRecDepth 20000 in
theorem ggL_law_X5_gain : GoodIn wsL_law wsX5_gain := goodIn_r _ [442, 279, 112, 257, 264, 265, 266, 5, 267, 258, 115, 116, 117, 443, 444, 445, 405, 406, 407, 408, 386, 387, 388, 389, 89, 352, 353, 354, 355, 83, 356, 357, 358, 359, 390, 391, 392, 393, 394, 395, 396, 397, 398, 399, 400, 401, 402, 403, 404, 446, 447, 448, 449, 90, 450, 451, 452, 453, 454, 455, 456, 457, 458, 92, 459, 460, 461, 462, 87, 463, 464, 465, 466, 91, 467, 468, 469, 470, 471, 472, 665, 666, 667, 668, 669, 670, 671, 672, 673, 674, 675, 676, 677, 678, 679, 680, 681, 682, 683, 684, 685, 686, 687, 688, 689, 690, 691] (by decide +kernel) (by decide +kernel)
set_option maxRecDepth 20000 in
theorem gL_law_X5_gain : GoodIn wsL_law (wsV RL 64 RX5 yX5_gain wsX5_gain) := goodIn_app (goodIn_of _ (by decide +kernel)) ggL_law_X5_gain
set_option maxRecDepth 20000 in
theorem ggL_law_X4_after : GoodIn wsL_law wsX4_after := goodIn_r _ [476, 19, 272, 101, 195, 31, 422, 292, 293, 294, 18, 295, 51, 423, 424, 2, 425, 344, 345, 346, 347, 24, 23, 365, 366, 367, 368, 196, 364, 477, 478, 479, 480, 30, 421, 32, 273, 316, 317, 318, 319, 50, 481, 233, 234, 314, 222, 223, 224, 436, 437, 438, 426, 427, 428, 429, 430, 431, 432, 433, 434, 435, 653, 654, 655, 656, 657, 658, 659, 660, 661, 662, 663, 664, 701, 702, 703, 704, 705, 706, 707, 708, 698, 699, 700] (by decide +kernel) (by decide +kernel)
set_option maxRecDepth 20000 in
theorem gL_law_X4_after : GoodIn wsL_law (wsV RL 65 RX4 yX4_after wsX4_after) := goodIn_app (goodIn_of _ (by decide +kernel)) ggL_law_X4_after
set_option maxRecDepth 20000 in
theorem ggL_law_X5_after : GoodIn wsL_law wsX5_after := goodIn_r _ [485, 279, 112, 257, 264, 265, 266, 5, 267, 258, 115, 116, 117, 443, 444, 445, 405, 406, 407, 408, 386, 387, 388, 389, 89, 352, 353, 354, 355, 83, 356, 357, 358, 359, 390, 391, 392, 393, 394, 395, 396, 397, 398, 399, 400, 401, 402, 403, 404, 486, 487, 488, 489, 91, 84, 450, 451, 452, 453, 454, 455, 456, 457, 458, 92, 90, 459, 460, 461, 462, 87, 463, 464, 465, 466, 467, 468, 469, 470, 471, 472, 665, 666, 667, 668, 669, 670, 671, 672, 673, 674, 675, 676, 677, 678, 679, 680, 681, 682, 683, 684, 685, 686, 687, 688, 689, 690, 691] (by decide +kernel) (by decide +kernel)
set_option maxRecDepth 20000 in
theorem gL_law_X5_after : GoodIn wsL_law (wsV RL 69 RX5 yX5_after wsX5_after) := goodIn_app (goodIn_of _ (by decide +kernel)) ggL_law_X5_after
set_option maxRecDepth 20000 in
theorem ggL_law_X4_input : GoodIn wsL_law wsX4_input := goodIn_r _ [493, 23, 195, 101, 421, 31, 422, 365, 366, 367, 2, 368, 19, 196, 364, 423, 424, 425, 477, 478, 479, 480, 30, 32, 273, 344, 345, 346, 347, 24, 316, 317, 318, 18, 319, 50, 481, 233, 234, 314, 222, 223, 224, 436, 437, 438, 426, 427, 428, 429, 430, 431, 432, 433, 434, 435, 653, 654, 655, 656, 657, 658, 659, 660, 661, 662, 663, 664, 701, 702, 703, 704, 705, 706, 707, 708, 698, 699, 700] (by decide +kernel) (by decide +kernel)
set_option maxRecDepth 20000 in
theorem gL_law_X4_input : GoodIn wsL_law (wsV RL 70 RX4 yX4_input wsX4_input) := goodIn_app (goodIn_of _ (by decide +kernel)) ggL_law_X4_input
set_option maxRecDepth 20000 in
theorem ggL_law_X5_input : GoodIn wsL_law wsX5_input := goodIn_r _ [497, 257, 112, 405, 406, 407, 5, 408, 258, 386, 387, 388, 389, 89, 352, 353, 354, 355, 83, 264, 265, 266, 267, 115, 116, 117, 356, 357, 358, 359, 390, 391, 392, 393, 394, 395, 396, 397, 398, 399, 400, 401, 402, 403, 404, 443, 444, 445, 498, 499, 500, 501, 90, 84, 450, 451, 452, 453, 454, 455, 456, 457, 458, 92, 459, 460, 461, 462, 87, 463, 464, 465, 466, 91, 467, 468, 469, 470, 471, 472, 665, 666, 667, 668, 669, 670, 671, 672, 673, 674, 675, 676, 677, 678, 679, 680, 681, 682, 683, 684, 685, 686, 687, 688, 689, 690, 691] (by decide +kernel) (by decide +kernel)
set_option maxRecDepth 20000 in
theorem gL_law_X5_input : GoodIn wsL_law (wsV RL 73 RX5 yX5_input wsX5_input) := goodIn_app (goodIn_of _ (by decide +kernel)) ggL_law_X5_input
set_option maxRecDepth 20000 in
theorem ggL_law_X4_most : GoodIn wsL_law wsX4_most := goodIn_r _ [505, 19, 196, 195, 344, 345, 346, 2, 347, 24, 23, 365, 366, 367, 368, 364, 653, 654, 655, 656, 657, 658, 659, 660, 661, 662, 663, 664, 698, 699, 700, 701, 702, 703, 704, 705, 706, 707, 708] (by decide +kernel) (by decide +kernel)
set_option maxRecDepth 20000 in
theorem gL_law_X4_most : GoodIn wsL_law (wsV RL 74 RX4 yX4_most wsX4_most) := goodIn_app (goodIn_of _ (by decide +kernel)) ggL_law_X4_most
set_option maxRecDepth 20000 in
theorem ggL_law_X5_most : GoodIn wsL_law wsX5_most := goodIn_r _ [509, 257, 405, 406, 407, 5, 408, 258, 386, 387, 388, 389, 89, 352, 353, 354, 355, 83, 264, 265, 266, 267, 115, 116, 117, 356, 357, 358, 359, 390, 391, 392, 393, 394, 395, 396, 397, 398, 399, 400, 401, 402, 403, 404, 510, 511, 512, 513, 91, 451, 452, 453, 454, 450, 455, 456, 457, 458, 92, 90, 459, 460, 461, 462, 87, 463, 464, 465, 466, 665, 666, 667, 668, 669, 670, 671, 672, 673, 674, 675, 676, 677, 678, 679, 680, 681, 682, 683, 684, 685, 686, 687, 688, 689, 690, 691] (by decide +kernel) (by decide +kernel)
set_option maxRecDepth 20000 in
theorem gL_law_X5_most : GoodIn wsL_law (wsV RL 78 RX5 yX5_most wsX5_most) := goodIn_app (goodIn_of _ (by decide +kernel)) ggL_law_X5_most
set_option maxRecDepth 20000 in
theorem ggL_law_X4_plan : GoodIn wsL_law wsX4_plan := goodIn_r _ [517, 19, 196, 195, 101, 36, 28, 23, 30, 33, 518, 519, 520, 521, 522, 523, 27, 524, 75, 70, 525, 526, 527, 431, 528, 77, 76, 529, 530, 531, 532, 533, 74, 71, 534, 73, 231, 2, 232, 535, 245, 246, 18, 247, 52, 248, 222, 223, 224, 50, 536, 375, 376, 22, 377, 249, 250, 251, 252, 63, 233, 234, 537, 538, 539, 540, 541, 542, 543, 544, 545, 69, 546, 547, 548, 549, 437, 438, 653, 654, 655, 656, 657, 658, 659, 660, 661, 662, 663, 664, 698, 699, 700, 709, 710, 711, 712, 713, 714, 715, 716, 701, 702, 703, 704, 705, 706, 707, 708] (by decide +kernel) (by decide +kernel)
set_option maxRecDepth 20000 in
theorem gL_law_X4_plan : GoodIn wsL_law (wsV RL 79 RX4 yX4_plan wsX4_plan) := goodIn_app (goodIn_of _ (by decide +kernel)) ggL_law_X4_plan
set_option maxRecDepth 20000 in
theorem ggL_law_X5_plan : GoodIn wsL_law wsX5_plan := goodIn_r _ [553, 258, 257, 112, 115, 116, 5, 117, 554, 555, 556, 557, 558, 93, 94, 386, 387, 388, 389, 89, 352, 353, 354, 355, 83, 264, 265, 266, 267, 356, 357, 358, 359, 390, 391, 392, 393, 394, 395, 396, 397, 398, 399, 400, 401, 402, 403, 404, 559, 560, 561, 562, 85, 563, 564, 565, 566, 92, 88, 567, 568, 569, 570, 327, 328, 329, 330, 84, 331, 332, 333, 334, 87, 571, 572, 573, 574, 575, 576, 577, 578, 95, 96, 579, 580, 581, 582, 583, 584, 585, 586, 587, 588, 589, 590, 591, 665, 666, 667, 668, 669, 670, 671, 672, 673, 674, 675, 676, 677, 678, 679, 680, 681, 682, 683, 684, 685, 686, 687, 688, 689, 690, 691] (by decide +kernel) (by decide +kernel)
set_option maxRecDepth 20000 in
theorem gL_law_X5_plan : GoodIn wsL_law (wsV RL 82 RX5 yX5_plan wsX5_plan) := goodIn_app (goodIn_of _ (by decide +kernel)) ggL_law_X5_plan
set_option maxRecDepth 20000 in
theorem ggL_law_X4_count : GoodIn wsL_law wsX4_count := goodIn_r _ [595, 19, 196, 15, 102, 33, 34, 35, 101, 653, 654, 655, 656, 657, 658, 659, 660, 661, 662, 663, 664, 698, 699, 700, 692, 693, 694, 695, 696, 697] (by decide +kernel) (by decide +kernel)
set_option maxRecDepth 20000 in
theorem gL_law_X4_count : GoodIn wsL_law (wsV RL 83 RX4 yX4_count wsX4_count) := goodIn_app (goodIn_of _ (by decide +kernel)) ggL_law_X4_count
set_option maxRecDepth 20000 in
theorem ggL_law_X5_count : GoodIn wsL_law wsX5_count := goodIn_r _ [599, 600, 601, 602, 5, 603, 258, 113, 85, 259, 326, 112, 665, 666, 667, 668, 669, 670, 671, 672, 673, 674, 675, 676, 677, 678, 679, 680, 681, 682, 683, 684, 685, 686, 687, 688, 689, 690, 691] (by decide +kernel) (by decide +kernel)
set_option maxRecDepth 20000 in
theorem gL_law_X5_count : GoodIn wsL_law (wsV RL 86 RX5 yX5_count wsX5_count) := goodIn_app (goodIn_of _ (by decide +kernel)) ggL_law_X5_count
set_option maxRecDepth 20000 in
theorem ggL_law_X4_digest : GoodIn wsL_law wsX4_digest := goodIn_r _ [607, 608, 19, 609, 273, 196, 15, 102, 610, 274, 209, 210, 18, 211, 51, 611, 612, 613, 2, 614, 30, 23, 24, 615, 616, 617, 618, 343, 619, 361, 362, 363, 195, 364, 101, 365, 366, 367, 368, 369, 370, 371, 372, 31, 315, 231, 232, 373, 245, 246, 247, 52, 248, 222, 223, 224, 50, 374, 375, 376, 22, 377, 249, 250, 251, 252, 63, 233, 234, 316, 317, 318, 319, 620, 621, 622, 623, 344, 345, 346, 347, 624, 418, 419, 420, 272, 421, 422, 292, 293, 294, 295, 423, 424, 425, 426, 427, 428, 429, 430, 431, 432, 433, 434, 435, 436, 437, 438, 625, 503, 504, 505, 626, 491, 492, 493, 477, 478, 479, 480, 32, 481, 314, 627, 474, 475, 476, 628, 515, 516, 517, 36, 28, 33, 518, 519, 520, 521, 522, 523, 27, 524, 75, 70, 525, 526, 527, 528, 77, 76, 529, 530, 531, 532, 533, 74, 71, 534, 73, 535, 536, 537, 538, 539, 540, 541, 542, 543, 544, 545, 69, 546, 547, 548, 549, 629, 593, 594, 595, 34, 35, 653, 654, 655, 656, 657, 658, 659, 660, 661, 662, 663, 664, 698, 699, 700, 692, 693, 694, 695, 696, 697, 701, 702, 703, 704, 705, 706, 707, 708, 709, 710, 711, 712, 713, 714, 715, 716] (by decide +kernel) (by decide +kernel)
set_option maxRecDepth 20000 in
theorem gL_law_X4_digest : GoodIn wsL_law (wsV RL 87 RX4 yX4_digest wsX4_digest) := goodIn_app (goodIn_of _ (by decide +kernel)) ggL_law_X4_digest
set_option maxRecDepth 20000 in
theorem ggL_law_X5_digest : GoodIn wsL_law wsX5_digest := goodIn_r _ [633, 634, 635, 83, 258, 113, 82, 260, 261, 262, 5, 263, 115, 116, 117, 264, 265, 266, 267, 636, 637, 638, 639, 640, 641, 642, 643, 644, 84, 645, 646, 647, 648, 89, 352, 353, 354, 355, 356, 357, 358, 359, 382, 383, 384, 385, 386, 387, 388, 389, 390, 391, 392, 393, 394, 395, 396, 397, 398, 399, 400, 401, 402, 403, 404, 405, 406, 407, 408, 409, 410, 411, 412, 88, 327, 328, 329, 330, 331, 332, 333, 334, 87, 413, 414, 415, 416, 335, 336, 337, 338, 649, 650, 651, 652, 446, 447, 448, 449, 90, 450, 451, 452, 453, 454, 455, 456, 457, 458, 92, 459, 460, 461, 462, 463, 464, 465, 466, 91, 467, 468, 469, 470, 471, 472, 510, 511, 512, 513, 498, 499, 500, 501, 486, 487, 488, 489, 554, 555, 556, 557, 558, 93, 94, 559, 560, 561, 562, 85, 563, 564, 565, 566, 567, 568, 569, 570, 571, 572, 573, 574, 575, 576, 577, 578, 95, 96, 579, 580, 581, 582, 583, 584, 585, 586, 587, 588, 589, 590, 591, 600, 601, 602, 603, 259, 326, 112, 665, 666, 667, 668, 669, 670, 671, 672, 673, 674, 675, 676, 677, 678, 679, 680, 681, 682, 683, 684, 685, 686, 687, 688, 689, 690, 691] (by decide +kernel) (by decide +kernel)
set_option maxRecDepth 20000 in
theorem gL_law_X5_digest : GoodIn wsL_law (wsV RL 90 RX5 yX5_digest wsX5_digest) := goodIn_app (goodIn_of _ (by decide +kernel)) ggL_law_X5_digest
theorem dL_law_0 : decode cL_law 0 = .ok (.new 7, 3) := by decide +kernel
theorem dL_law_3 : decode cL_law 3 = .ok (.dup, 1) := by decide +kernel
theorem dL_law_4 : decode cL_law 4 = .ok (.invokespecial 9, 3) := by decide +kernel
theorem dL_law_7 : decode cL_law 7 = .ok (.astore_n 1, 1) := by decide +kernel
theorem dL_law_8 : decode cL_law 8 = .ok (.new 10, 3) := by decide +kernel
theorem dL_law_11 : decode cL_law 11 = .ok (.dup, 1) := by decide +kernel
theorem dL_law_12 : decode cL_law 12 = .ok (.invokespecial 12, 3) := by decide +kernel
theorem dL_law_15 : decode cL_law 15 = .ok (.astore_n 2, 1) := by decide +kernel
theorem dL_law_16 : decode cL_law 16 = .ok (.iconst 0, 1) := by decide +kernel
theorem dL_law_17 : decode cL_law 17 = .ok (.istore_n 3, 1) := by decide +kernel
theorem dL_law_18 : decode cL_law 18 = .ok (.iload_n 3, 1) := by decide +kernel
theorem dL_law_19 : decode cL_law 19 = .ok (.aload_n 0, 1) := by decide +kernel
theorem dL_law_20 : decode cL_law 20 = .ok (.arraylength, 1) := by decide +kernel
theorem dL_law_21 : decode cL_law 21 = .ok (.iconst 5, 1) := by decide +kernel
theorem dL_law_22 : decode cL_law 22 = .ok (.isub, 1) := by decide +kernel
theorem dL_law_23 : decode cL_law 23 = .ok (.if_icmp .gt 659, 3) := by decide +kernel
theorem dL_law_26 : decode cL_law 26 = .ok (.aload_n 0, 1) := by decide +kernel
theorem dL_law_27 : decode cL_law 27 = .ok (.iload_n 3, 1) := by decide +kernel
theorem dL_law_28 : decode cL_law 28 = .ok (.iaload, 1) := by decide +kernel
theorem dL_law_29 : decode cL_law 29 = .ok (.bipush 31, 2) := by decide +kernel
theorem dL_law_31 : decode cL_law 31 = .ok (.iand, 1) := by decide +kernel
theorem dL_law_32 : decode cL_law 32 = .ok (.tableswitch 644 0 17 #[88, 112, 126, 140, 154, 188, 212, 246, 270, 294, 354, 378, 438, 508, 542, 582, 606, 630], 88) := by decide +kernel
theorem dL_law_120 : decode cL_law 120 = .ok (.aload_n 1, 1) := by decide +kernel
theorem dL_law_121 : decode cL_law 121 = .ok (.aload_n 0, 1) := by decide +kernel
theorem dL_law_122 : decode cL_law 122 = .ok (.iload_n 3, 1) := by decide +kernel
theorem dL_law_123 : decode cL_law 123 = .ok (.iconst 1, 1) := by decide +kernel
theorem dL_law_124 : decode cL_law 124 = .ok (.iadd, 1) := by decide +kernel
theorem dL_law_125 : decode cL_law 125 = .ok (.iaload, 1) := by decide +kernel
theorem dL_law_126 : decode cL_law 126 = .ok (.invokevirtual 13, 3) := by decide +kernel
theorem dL_law_129 : decode cL_law 129 = .ok (.aload_n 2, 1) := by decide +kernel
theorem dL_law_130 : decode cL_law 130 = .ok (.aload_n 0, 1) := by decide +kernel
theorem dL_law_131 : decode cL_law 131 = .ok (.iload_n 3, 1) := by decide +kernel
theorem dL_law_132 : decode cL_law 132 = .ok (.iconst 1, 1) := by decide +kernel
theorem dL_law_133 : decode cL_law 133 = .ok (.iadd, 1) := by decide +kernel
theorem dL_law_134 : decode cL_law 134 = .ok (.iaload, 1) := by decide +kernel
theorem dL_law_135 : decode cL_law 135 = .ok (.invokevirtual 17, 3) := by decide +kernel
theorem dL_law_138 : decode cL_law 138 = .ok (.lcmp, 1) := by decide +kernel
theorem dL_law_139 : decode cL_law 139 = .ok (.ifCond .eq 537, 3) := by decide +kernel
theorem dL_law_142 : decode cL_law 142 = .ok (.iconst 0, 1) := by decide +kernel
theorem dL_law_143 : decode cL_law 143 = .ok (.ireturn, 1) := by decide +kernel
theorem dL_law_144 : decode cL_law 144 = .ok (.aload_n 1, 1) := by decide +kernel
theorem dL_law_145 : decode cL_law 145 = .ok (.invokevirtual 18, 3) := by decide +kernel
theorem dL_law_148 : decode cL_law 148 = .ok (.aload_n 2, 1) := by decide +kernel
theorem dL_law_149 : decode cL_law 149 = .ok (.invokevirtual 22, 3) := by decide +kernel
theorem dL_law_152 : decode cL_law 152 = .ok (.lcmp, 1) := by decide +kernel
theorem dL_law_153 : decode cL_law 153 = .ok (.ifCond .eq 523, 3) := by decide +kernel
theorem dL_law_156 : decode cL_law 156 = .ok (.iconst 0, 1) := by decide +kernel
theorem dL_law_157 : decode cL_law 157 = .ok (.ireturn, 1) := by decide +kernel
theorem dL_law_158 : decode cL_law 158 = .ok (.aload_n 1, 1) := by decide +kernel
theorem dL_law_159 : decode cL_law 159 = .ok (.invokevirtual 23, 3) := by decide +kernel
theorem dL_law_162 : decode cL_law 162 = .ok (.aload_n 2, 1) := by decide +kernel
theorem dL_law_163 : decode cL_law 163 = .ok (.invokevirtual 26, 3) := by decide +kernel
theorem dL_law_166 : decode cL_law 166 = .ok (.lcmp, 1) := by decide +kernel
theorem dL_law_167 : decode cL_law 167 = .ok (.ifCond .eq 509, 3) := by decide +kernel
theorem dL_law_170 : decode cL_law 170 = .ok (.iconst 0, 1) := by decide +kernel
theorem dL_law_171 : decode cL_law 171 = .ok (.ireturn, 1) := by decide +kernel
theorem dL_law_172 : decode cL_law 172 = .ok (.aload_n 1, 1) := by decide +kernel
theorem dL_law_173 : decode cL_law 173 = .ok (.invokevirtual 27, 3) := by decide +kernel
theorem dL_law_176 : decode cL_law 176 = .ok (.aload_n 2, 1) := by decide +kernel
theorem dL_law_177 : decode cL_law 177 = .ok (.invokevirtual 30, 3) := by decide +kernel
theorem dL_law_180 : decode cL_law 180 = .ok (.lcmp, 1) := by decide +kernel
theorem dL_law_181 : decode cL_law 181 = .ok (.ifCond .eq 495, 3) := by decide +kernel
theorem dL_law_184 : decode cL_law 184 = .ok (.iconst 0, 1) := by decide +kernel
theorem dL_law_185 : decode cL_law 185 = .ok (.ireturn, 1) := by decide +kernel
theorem dL_law_186 : decode cL_law 186 = .ok (.aload_n 1, 1) := by decide +kernel
theorem dL_law_187 : decode cL_law 187 = .ok (.aload_n 0, 1) := by decide +kernel
theorem dL_law_188 : decode cL_law 188 = .ok (.iload_n 3, 1) := by decide +kernel
theorem dL_law_189 : decode cL_law 189 = .ok (.iconst 1, 1) := by decide +kernel
theorem dL_law_190 : decode cL_law 190 = .ok (.iadd, 1) := by decide +kernel
theorem dL_law_191 : decode cL_law 191 = .ok (.iaload, 1) := by decide +kernel
theorem dL_law_192 : decode cL_law 192 = .ok (.aload_n 0, 1) := by decide +kernel
theorem dL_law_193 : decode cL_law 193 = .ok (.iload_n 3, 1) := by decide +kernel
theorem dL_law_194 : decode cL_law 194 = .ok (.iconst 2, 1) := by decide +kernel
theorem dL_law_195 : decode cL_law 195 = .ok (.iadd, 1) := by decide +kernel
theorem dL_law_196 : decode cL_law 196 = .ok (.iaload, 1) := by decide +kernel
theorem dL_law_197 : decode cL_law 197 = .ok (.invokevirtual 31, 3) := by decide +kernel
theorem dL_law_200 : decode cL_law 200 = .ok (.aload_n 2, 1) := by decide +kernel
theorem dL_law_201 : decode cL_law 201 = .ok (.aload_n 0, 1) := by decide +kernel
theorem dL_law_202 : decode cL_law 202 = .ok (.iload_n 3, 1) := by decide +kernel
theorem dL_law_203 : decode cL_law 203 = .ok (.iconst 1, 1) := by decide +kernel
theorem dL_law_204 : decode cL_law 204 = .ok (.iadd, 1) := by decide +kernel
theorem dL_law_205 : decode cL_law 205 = .ok (.iaload, 1) := by decide +kernel
theorem dL_law_206 : decode cL_law 206 = .ok (.aload_n 0, 1) := by decide +kernel
theorem dL_law_207 : decode cL_law 207 = .ok (.iload_n 3, 1) := by decide +kernel
theorem dL_law_208 : decode cL_law 208 = .ok (.iconst 2, 1) := by decide +kernel
theorem dL_law_209 : decode cL_law 209 = .ok (.iadd, 1) := by decide +kernel
theorem dL_law_210 : decode cL_law 210 = .ok (.iaload, 1) := by decide +kernel
theorem dL_law_211 : decode cL_law 211 = .ok (.invokevirtual 35, 3) := by decide +kernel
theorem dL_law_214 : decode cL_law 214 = .ok (.lcmp, 1) := by decide +kernel
theorem dL_law_215 : decode cL_law 215 = .ok (.ifCond .eq 461, 3) := by decide +kernel
theorem dL_law_218 : decode cL_law 218 = .ok (.iconst 0, 1) := by decide +kernel
theorem dL_law_219 : decode cL_law 219 = .ok (.ireturn, 1) := by decide +kernel
theorem dL_law_220 : decode cL_law 220 = .ok (.aload_n 1, 1) := by decide +kernel
theorem dL_law_221 : decode cL_law 221 = .ok (.aload_n 0, 1) := by decide +kernel
theorem dL_law_222 : decode cL_law 222 = .ok (.iload_n 3, 1) := by decide +kernel
theorem dL_law_223 : decode cL_law 223 = .ok (.iconst 1, 1) := by decide +kernel
theorem dL_law_224 : decode cL_law 224 = .ok (.iadd, 1) := by decide +kernel
theorem dL_law_225 : decode cL_law 225 = .ok (.iaload, 1) := by decide +kernel
theorem dL_law_226 : decode cL_law 226 = .ok (.invokevirtual 36, 3) := by decide +kernel
theorem dL_law_229 : decode cL_law 229 = .ok (.aload_n 2, 1) := by decide +kernel
theorem dL_law_230 : decode cL_law 230 = .ok (.aload_n 0, 1) := by decide +kernel
theorem dL_law_231 : decode cL_law 231 = .ok (.iload_n 3, 1) := by decide +kernel
theorem dL_law_232 : decode cL_law 232 = .ok (.iconst 1, 1) := by decide +kernel
theorem dL_law_233 : decode cL_law 233 = .ok (.iadd, 1) := by decide +kernel
theorem dL_law_234 : decode cL_law 234 = .ok (.iaload, 1) := by decide +kernel
theorem dL_law_235 : decode cL_law 235 = .ok (.invokevirtual 39, 3) := by decide +kernel
theorem dL_law_238 : decode cL_law 238 = .ok (.lcmp, 1) := by decide +kernel
theorem dL_law_239 : decode cL_law 239 = .ok (.ifCond .eq 437, 3) := by decide +kernel
theorem dL_law_242 : decode cL_law 242 = .ok (.iconst 0, 1) := by decide +kernel
theorem dL_law_243 : decode cL_law 243 = .ok (.ireturn, 1) := by decide +kernel
theorem dL_law_244 : decode cL_law 244 = .ok (.aload_n 1, 1) := by decide +kernel
theorem dL_law_245 : decode cL_law 245 = .ok (.aload_n 0, 1) := by decide +kernel
theorem dL_law_246 : decode cL_law 246 = .ok (.iload_n 3, 1) := by decide +kernel
theorem dL_law_247 : decode cL_law 247 = .ok (.iconst 1, 1) := by decide +kernel
theorem dL_law_248 : decode cL_law 248 = .ok (.iadd, 1) := by decide +kernel
theorem dL_law_249 : decode cL_law 249 = .ok (.iaload, 1) := by decide +kernel
theorem dL_law_250 : decode cL_law 250 = .ok (.aload_n 0, 1) := by decide +kernel
theorem dL_law_251 : decode cL_law 251 = .ok (.iload_n 3, 1) := by decide +kernel
theorem dL_law_252 : decode cL_law 252 = .ok (.iconst 2, 1) := by decide +kernel
theorem dL_law_253 : decode cL_law 253 = .ok (.iadd, 1) := by decide +kernel
theorem dL_law_254 : decode cL_law 254 = .ok (.iaload, 1) := by decide +kernel
theorem dL_law_255 : decode cL_law 255 = .ok (.invokevirtual 40, 3) := by decide +kernel
theorem dL_law_258 : decode cL_law 258 = .ok (.aload_n 2, 1) := by decide +kernel
theorem dL_law_259 : decode cL_law 259 = .ok (.aload_n 0, 1) := by decide +kernel
theorem dL_law_260 : decode cL_law 260 = .ok (.iload_n 3, 1) := by decide +kernel
theorem dL_law_261 : decode cL_law 261 = .ok (.iconst 1, 1) := by decide +kernel
theorem dL_law_262 : decode cL_law 262 = .ok (.iadd, 1) := by decide +kernel
theorem dL_law_263 : decode cL_law 263 = .ok (.iaload, 1) := by decide +kernel
theorem dL_law_264 : decode cL_law 264 = .ok (.aload_n 0, 1) := by decide +kernel
theorem dL_law_265 : decode cL_law 265 = .ok (.iload_n 3, 1) := by decide +kernel
theorem dL_law_266 : decode cL_law 266 = .ok (.iconst 2, 1) := by decide +kernel
theorem dL_law_267 : decode cL_law 267 = .ok (.iadd, 1) := by decide +kernel
theorem dL_law_268 : decode cL_law 268 = .ok (.iaload, 1) := by decide +kernel
theorem dL_law_269 : decode cL_law 269 = .ok (.invokevirtual 43, 3) := by decide +kernel
theorem dL_law_272 : decode cL_law 272 = .ok (.lcmp, 1) := by decide +kernel
theorem dL_law_273 : decode cL_law 273 = .ok (.ifCond .eq 403, 3) := by decide +kernel
theorem dL_law_276 : decode cL_law 276 = .ok (.iconst 0, 1) := by decide +kernel
theorem dL_law_277 : decode cL_law 277 = .ok (.ireturn, 1) := by decide +kernel
theorem dL_law_278 : decode cL_law 278 = .ok (.aload_n 1, 1) := by decide +kernel
theorem dL_law_279 : decode cL_law 279 = .ok (.aload_n 0, 1) := by decide +kernel
theorem dL_law_280 : decode cL_law 280 = .ok (.iload_n 3, 1) := by decide +kernel
theorem dL_law_281 : decode cL_law 281 = .ok (.iconst 1, 1) := by decide +kernel
theorem dL_law_282 : decode cL_law 282 = .ok (.iadd, 1) := by decide +kernel
theorem dL_law_283 : decode cL_law 283 = .ok (.iaload, 1) := by decide +kernel
theorem dL_law_284 : decode cL_law 284 = .ok (.invokevirtual 44, 3) := by decide +kernel
theorem dL_law_287 : decode cL_law 287 = .ok (.aload_n 2, 1) := by decide +kernel
theorem dL_law_288 : decode cL_law 288 = .ok (.aload_n 0, 1) := by decide +kernel
theorem dL_law_289 : decode cL_law 289 = .ok (.iload_n 3, 1) := by decide +kernel
theorem dL_law_290 : decode cL_law 290 = .ok (.iconst 1, 1) := by decide +kernel
theorem dL_law_291 : decode cL_law 291 = .ok (.iadd, 1) := by decide +kernel
theorem dL_law_292 : decode cL_law 292 = .ok (.iaload, 1) := by decide +kernel
theorem dL_law_293 : decode cL_law 293 = .ok (.invokevirtual 47, 3) := by decide +kernel
theorem dL_law_296 : decode cL_law 296 = .ok (.lcmp, 1) := by decide +kernel
theorem dL_law_297 : decode cL_law 297 = .ok (.ifCond .eq 379, 3) := by decide +kernel
theorem dL_law_300 : decode cL_law 300 = .ok (.iconst 0, 1) := by decide +kernel
theorem dL_law_301 : decode cL_law 301 = .ok (.ireturn, 1) := by decide +kernel
theorem dL_law_302 : decode cL_law 302 = .ok (.aload_n 1, 1) := by decide +kernel
theorem dL_law_303 : decode cL_law 303 = .ok (.aload_n 0, 1) := by decide +kernel
theorem dL_law_304 : decode cL_law 304 = .ok (.iload_n 3, 1) := by decide +kernel
theorem dL_law_305 : decode cL_law 305 = .ok (.iconst 1, 1) := by decide +kernel
theorem dL_law_306 : decode cL_law 306 = .ok (.iadd, 1) := by decide +kernel
theorem dL_law_307 : decode cL_law 307 = .ok (.iaload, 1) := by decide +kernel
theorem dL_law_308 : decode cL_law 308 = .ok (.invokevirtual 48, 3) := by decide +kernel
theorem dL_law_311 : decode cL_law 311 = .ok (.aload_n 2, 1) := by decide +kernel
theorem dL_law_312 : decode cL_law 312 = .ok (.aload_n 0, 1) := by decide +kernel
theorem dL_law_313 : decode cL_law 313 = .ok (.iload_n 3, 1) := by decide +kernel
theorem dL_law_314 : decode cL_law 314 = .ok (.iconst 1, 1) := by decide +kernel
theorem dL_law_315 : decode cL_law 315 = .ok (.iadd, 1) := by decide +kernel
theorem dL_law_316 : decode cL_law 316 = .ok (.iaload, 1) := by decide +kernel
theorem dL_law_317 : decode cL_law 317 = .ok (.invokevirtual 51, 3) := by decide +kernel
theorem dL_law_320 : decode cL_law 320 = .ok (.lcmp, 1) := by decide +kernel
theorem dL_law_321 : decode cL_law 321 = .ok (.ifCond .eq 355, 3) := by decide +kernel
theorem dL_law_324 : decode cL_law 324 = .ok (.iconst 0, 1) := by decide +kernel
theorem dL_law_325 : decode cL_law 325 = .ok (.ireturn, 1) := by decide +kernel
theorem dL_law_326 : decode cL_law 326 = .ok (.aload_n 1, 1) := by decide +kernel
theorem dL_law_327 : decode cL_law 327 = .ok (.aload_n 0, 1) := by decide +kernel
theorem dL_law_328 : decode cL_law 328 = .ok (.iload_n 3, 1) := by decide +kernel
theorem dL_law_329 : decode cL_law 329 = .ok (.iconst 1, 1) := by decide +kernel
theorem dL_law_330 : decode cL_law 330 = .ok (.iadd, 1) := by decide +kernel
theorem dL_law_331 : decode cL_law 331 = .ok (.iaload, 1) := by decide +kernel
theorem dL_law_332 : decode cL_law 332 = .ok (.ifCond .eq 7, 3) := by decide +kernel
theorem dL_law_335 : decode cL_law 335 = .ok (.iconst 1, 1) := by decide +kernel
theorem dL_law_336 : decode cL_law 336 = .ok (.goto 4, 3) := by decide +kernel
theorem dL_law_339 : decode cL_law 339 = .ok (.iconst 0, 1) := by decide +kernel
theorem dL_law_340 : decode cL_law 340 = .ok (.aload_n 0, 1) := by decide +kernel
theorem dL_law_341 : decode cL_law 341 = .ok (.iload_n 3, 1) := by decide +kernel
theorem dL_law_342 : decode cL_law 342 = .ok (.iconst 2, 1) := by decide +kernel
theorem dL_law_343 : decode cL_law 343 = .ok (.iadd, 1) := by decide +kernel
theorem dL_law_344 : decode cL_law 344 = .ok (.iaload, 1) := by decide +kernel
theorem dL_law_345 : decode cL_law 345 = .ok (.aload_n 0, 1) := by decide +kernel
theorem dL_law_346 : decode cL_law 346 = .ok (.iload_n 3, 1) := by decide +kernel
theorem dL_law_347 : decode cL_law 347 = .ok (.iconst 3, 1) := by decide +kernel
theorem dL_law_348 : decode cL_law 348 = .ok (.iadd, 1) := by decide +kernel
theorem dL_law_349 : decode cL_law 349 = .ok (.iaload, 1) := by decide +kernel
theorem dL_law_350 : decode cL_law 350 = .ok (.invokevirtual 52, 3) := by decide +kernel
theorem dL_law_353 : decode cL_law 353 = .ok (.aload_n 2, 1) := by decide +kernel
theorem dL_law_354 : decode cL_law 354 = .ok (.aload_n 0, 1) := by decide +kernel
theorem dL_law_355 : decode cL_law 355 = .ok (.iload_n 3, 1) := by decide +kernel
theorem dL_law_356 : decode cL_law 356 = .ok (.iconst 1, 1) := by decide +kernel
theorem dL_law_357 : decode cL_law 357 = .ok (.iadd, 1) := by decide +kernel
theorem dL_law_358 : decode cL_law 358 = .ok (.iaload, 1) := by decide +kernel
theorem dL_law_359 : decode cL_law 359 = .ok (.ifCond .eq 7, 3) := by decide +kernel
theorem dL_law_362 : decode cL_law 362 = .ok (.iconst 1, 1) := by decide +kernel
theorem dL_law_363 : decode cL_law 363 = .ok (.goto 4, 3) := by decide +kernel
theorem dL_law_366 : decode cL_law 366 = .ok (.iconst 0, 1) := by decide +kernel
theorem dL_law_367 : decode cL_law 367 = .ok (.aload_n 0, 1) := by decide +kernel
theorem dL_law_368 : decode cL_law 368 = .ok (.iload_n 3, 1) := by decide +kernel
theorem dL_law_369 : decode cL_law 369 = .ok (.iconst 2, 1) := by decide +kernel
theorem dL_law_370 : decode cL_law 370 = .ok (.iadd, 1) := by decide +kernel
theorem dL_law_371 : decode cL_law 371 = .ok (.iaload, 1) := by decide +kernel
theorem dL_law_372 : decode cL_law 372 = .ok (.aload_n 0, 1) := by decide +kernel
theorem dL_law_373 : decode cL_law 373 = .ok (.iload_n 3, 1) := by decide +kernel
theorem dL_law_374 : decode cL_law 374 = .ok (.iconst 3, 1) := by decide +kernel
theorem dL_law_375 : decode cL_law 375 = .ok (.iadd, 1) := by decide +kernel
theorem dL_law_376 : decode cL_law 376 = .ok (.iaload, 1) := by decide +kernel
theorem dL_law_377 : decode cL_law 377 = .ok (.invokevirtual 56, 3) := by decide +kernel
theorem dL_law_380 : decode cL_law 380 = .ok (.lcmp, 1) := by decide +kernel
theorem dL_law_381 : decode cL_law 381 = .ok (.ifCond .eq 295, 3) := by decide +kernel
theorem dL_law_384 : decode cL_law 384 = .ok (.iconst 0, 1) := by decide +kernel
theorem dL_law_385 : decode cL_law 385 = .ok (.ireturn, 1) := by decide +kernel
theorem dL_law_386 : decode cL_law 386 = .ok (.aload_n 1, 1) := by decide +kernel
theorem dL_law_387 : decode cL_law 387 = .ok (.aload_n 0, 1) := by decide +kernel
theorem dL_law_388 : decode cL_law 388 = .ok (.iload_n 3, 1) := by decide +kernel
theorem dL_law_389 : decode cL_law 389 = .ok (.iconst 1, 1) := by decide +kernel
theorem dL_law_390 : decode cL_law 390 = .ok (.iadd, 1) := by decide +kernel
theorem dL_law_391 : decode cL_law 391 = .ok (.iaload, 1) := by decide +kernel
theorem dL_law_392 : decode cL_law 392 = .ok (.invokevirtual 57, 3) := by decide +kernel
theorem dL_law_395 : decode cL_law 395 = .ok (.aload_n 2, 1) := by decide +kernel
theorem dL_law_396 : decode cL_law 396 = .ok (.aload_n 0, 1) := by decide +kernel
theorem dL_law_397 : decode cL_law 397 = .ok (.iload_n 3, 1) := by decide +kernel
theorem dL_law_398 : decode cL_law 398 = .ok (.iconst 1, 1) := by decide +kernel
theorem dL_law_399 : decode cL_law 399 = .ok (.iadd, 1) := by decide +kernel
theorem dL_law_400 : decode cL_law 400 = .ok (.iaload, 1) := by decide +kernel
theorem dL_law_401 : decode cL_law 401 = .ok (.invokevirtual 60, 3) := by decide +kernel
theorem dL_law_404 : decode cL_law 404 = .ok (.lcmp, 1) := by decide +kernel
theorem dL_law_405 : decode cL_law 405 = .ok (.ifCond .eq 271, 3) := by decide +kernel
theorem dL_law_408 : decode cL_law 408 = .ok (.iconst 0, 1) := by decide +kernel
theorem dL_law_409 : decode cL_law 409 = .ok (.ireturn, 1) := by decide +kernel
theorem dL_law_410 : decode cL_law 410 = .ok (.aload_n 1, 1) := by decide +kernel
theorem dL_law_411 : decode cL_law 411 = .ok (.aload_n 0, 1) := by decide +kernel
theorem dL_law_412 : decode cL_law 412 = .ok (.iload_n 3, 1) := by decide +kernel
theorem dL_law_413 : decode cL_law 413 = .ok (.iconst 1, 1) := by decide +kernel
theorem dL_law_414 : decode cL_law 414 = .ok (.iadd, 1) := by decide +kernel
theorem dL_law_415 : decode cL_law 415 = .ok (.iaload, 1) := by decide +kernel
theorem dL_law_416 : decode cL_law 416 = .ok (.ifCond .eq 7, 3) := by decide +kernel
theorem dL_law_419 : decode cL_law 419 = .ok (.iconst 1, 1) := by decide +kernel
theorem dL_law_420 : decode cL_law 420 = .ok (.goto 4, 3) := by decide +kernel
theorem dL_law_423 : decode cL_law 423 = .ok (.iconst 0, 1) := by decide +kernel
theorem dL_law_424 : decode cL_law 424 = .ok (.aload_n 0, 1) := by decide +kernel
theorem dL_law_425 : decode cL_law 425 = .ok (.iload_n 3, 1) := by decide +kernel
theorem dL_law_426 : decode cL_law 426 = .ok (.iconst 2, 1) := by decide +kernel
theorem dL_law_427 : decode cL_law 427 = .ok (.iadd, 1) := by decide +kernel
theorem dL_law_428 : decode cL_law 428 = .ok (.iaload, 1) := by decide +kernel
theorem dL_law_429 : decode cL_law 429 = .ok (.aload_n 0, 1) := by decide +kernel
theorem dL_law_430 : decode cL_law 430 = .ok (.iload_n 3, 1) := by decide +kernel
theorem dL_law_431 : decode cL_law 431 = .ok (.iconst 3, 1) := by decide +kernel
theorem dL_law_432 : decode cL_law 432 = .ok (.iadd, 1) := by decide +kernel
theorem dL_law_433 : decode cL_law 433 = .ok (.iaload, 1) := by decide +kernel
theorem dL_law_434 : decode cL_law 434 = .ok (.invokevirtual 61, 3) := by decide +kernel
theorem dL_law_437 : decode cL_law 437 = .ok (.aload_n 2, 1) := by decide +kernel
theorem dL_law_438 : decode cL_law 438 = .ok (.aload_n 0, 1) := by decide +kernel
theorem dL_law_439 : decode cL_law 439 = .ok (.iload_n 3, 1) := by decide +kernel
theorem dL_law_440 : decode cL_law 440 = .ok (.iconst 1, 1) := by decide +kernel
theorem dL_law_441 : decode cL_law 441 = .ok (.iadd, 1) := by decide +kernel
theorem dL_law_442 : decode cL_law 442 = .ok (.iaload, 1) := by decide +kernel
theorem dL_law_443 : decode cL_law 443 = .ok (.ifCond .eq 7, 3) := by decide +kernel
theorem dL_law_446 : decode cL_law 446 = .ok (.iconst 1, 1) := by decide +kernel
theorem dL_law_447 : decode cL_law 447 = .ok (.goto 4, 3) := by decide +kernel
theorem dL_law_450 : decode cL_law 450 = .ok (.iconst 0, 1) := by decide +kernel
theorem dL_law_451 : decode cL_law 451 = .ok (.aload_n 0, 1) := by decide +kernel
theorem dL_law_452 : decode cL_law 452 = .ok (.iload_n 3, 1) := by decide +kernel
theorem dL_law_453 : decode cL_law 453 = .ok (.iconst 2, 1) := by decide +kernel
theorem dL_law_454 : decode cL_law 454 = .ok (.iadd, 1) := by decide +kernel
theorem dL_law_455 : decode cL_law 455 = .ok (.iaload, 1) := by decide +kernel
theorem dL_law_456 : decode cL_law 456 = .ok (.aload_n 0, 1) := by decide +kernel
theorem dL_law_457 : decode cL_law 457 = .ok (.iload_n 3, 1) := by decide +kernel
theorem dL_law_458 : decode cL_law 458 = .ok (.iconst 3, 1) := by decide +kernel
theorem dL_law_459 : decode cL_law 459 = .ok (.iadd, 1) := by decide +kernel
theorem dL_law_460 : decode cL_law 460 = .ok (.iaload, 1) := by decide +kernel
theorem dL_law_461 : decode cL_law 461 = .ok (.invokevirtual 64, 3) := by decide +kernel
theorem dL_law_464 : decode cL_law 464 = .ok (.lcmp, 1) := by decide +kernel
theorem dL_law_465 : decode cL_law 465 = .ok (.ifCond .eq 211, 3) := by decide +kernel
theorem dL_law_468 : decode cL_law 468 = .ok (.iconst 0, 1) := by decide +kernel
theorem dL_law_469 : decode cL_law 469 = .ok (.ireturn, 1) := by decide +kernel
theorem dL_law_470 : decode cL_law 470 = .ok (.aload_n 1, 1) := by decide +kernel
theorem dL_law_471 : decode cL_law 471 = .ok (.aload_n 0, 1) := by decide +kernel
theorem dL_law_472 : decode cL_law 472 = .ok (.iload_n 3, 1) := by decide +kernel
theorem dL_law_473 : decode cL_law 473 = .ok (.iconst 1, 1) := by decide +kernel
theorem dL_law_474 : decode cL_law 474 = .ok (.iadd, 1) := by decide +kernel
theorem dL_law_475 : decode cL_law 475 = .ok (.iaload, 1) := by decide +kernel
theorem dL_law_476 : decode cL_law 476 = .ok (.ifCond .eq 7, 3) := by decide +kernel
theorem dL_law_479 : decode cL_law 479 = .ok (.iconst 1, 1) := by decide +kernel
theorem dL_law_480 : decode cL_law 480 = .ok (.goto 4, 3) := by decide +kernel
theorem dL_law_483 : decode cL_law 483 = .ok (.iconst 0, 1) := by decide +kernel
theorem dL_law_484 : decode cL_law 484 = .ok (.aload_n 0, 1) := by decide +kernel
theorem dL_law_485 : decode cL_law 485 = .ok (.iload_n 3, 1) := by decide +kernel
theorem dL_law_486 : decode cL_law 486 = .ok (.iconst 2, 1) := by decide +kernel
theorem dL_law_487 : decode cL_law 487 = .ok (.iadd, 1) := by decide +kernel
theorem dL_law_488 : decode cL_law 488 = .ok (.iaload, 1) := by decide +kernel
theorem dL_law_489 : decode cL_law 489 = .ok (.aload_n 0, 1) := by decide +kernel
theorem dL_law_490 : decode cL_law 490 = .ok (.iload_n 3, 1) := by decide +kernel
theorem dL_law_491 : decode cL_law 491 = .ok (.iconst 3, 1) := by decide +kernel
theorem dL_law_492 : decode cL_law 492 = .ok (.iadd, 1) := by decide +kernel
theorem dL_law_493 : decode cL_law 493 = .ok (.iaload, 1) := by decide +kernel
theorem dL_law_494 : decode cL_law 494 = .ok (.aload_n 0, 1) := by decide +kernel
theorem dL_law_495 : decode cL_law 495 = .ok (.iload_n 3, 1) := by decide +kernel
theorem dL_law_496 : decode cL_law 496 = .ok (.iconst 4, 1) := by decide +kernel
theorem dL_law_497 : decode cL_law 497 = .ok (.iadd, 1) := by decide +kernel
theorem dL_law_498 : decode cL_law 498 = .ok (.iaload, 1) := by decide +kernel
theorem dL_law_499 : decode cL_law 499 = .ok (.invokevirtual 65, 3) := by decide +kernel
theorem dL_law_502 : decode cL_law 502 = .ok (.aload_n 2, 1) := by decide +kernel
theorem dL_law_503 : decode cL_law 503 = .ok (.aload_n 0, 1) := by decide +kernel
theorem dL_law_504 : decode cL_law 504 = .ok (.iload_n 3, 1) := by decide +kernel
theorem dL_law_505 : decode cL_law 505 = .ok (.iconst 1, 1) := by decide +kernel
theorem dL_law_506 : decode cL_law 506 = .ok (.iadd, 1) := by decide +kernel
theorem dL_law_507 : decode cL_law 507 = .ok (.iaload, 1) := by decide +kernel
theorem dL_law_508 : decode cL_law 508 = .ok (.ifCond .eq 7, 3) := by decide +kernel
theorem dL_law_511 : decode cL_law 511 = .ok (.iconst 1, 1) := by decide +kernel
theorem dL_law_512 : decode cL_law 512 = .ok (.goto 4, 3) := by decide +kernel
theorem dL_law_515 : decode cL_law 515 = .ok (.iconst 0, 1) := by decide +kernel
theorem dL_law_516 : decode cL_law 516 = .ok (.aload_n 0, 1) := by decide +kernel
theorem dL_law_517 : decode cL_law 517 = .ok (.iload_n 3, 1) := by decide +kernel
theorem dL_law_518 : decode cL_law 518 = .ok (.iconst 2, 1) := by decide +kernel
theorem dL_law_519 : decode cL_law 519 = .ok (.iadd, 1) := by decide +kernel
theorem dL_law_520 : decode cL_law 520 = .ok (.iaload, 1) := by decide +kernel
theorem dL_law_521 : decode cL_law 521 = .ok (.aload_n 0, 1) := by decide +kernel
theorem dL_law_522 : decode cL_law 522 = .ok (.iload_n 3, 1) := by decide +kernel
theorem dL_law_523 : decode cL_law 523 = .ok (.iconst 3, 1) := by decide +kernel
theorem dL_law_524 : decode cL_law 524 = .ok (.iadd, 1) := by decide +kernel
theorem dL_law_525 : decode cL_law 525 = .ok (.iaload, 1) := by decide +kernel
theorem dL_law_526 : decode cL_law 526 = .ok (.aload_n 0, 1) := by decide +kernel
theorem dL_law_527 : decode cL_law 527 = .ok (.iload_n 3, 1) := by decide +kernel
theorem dL_law_528 : decode cL_law 528 = .ok (.iconst 4, 1) := by decide +kernel
theorem dL_law_529 : decode cL_law 529 = .ok (.iadd, 1) := by decide +kernel
theorem dL_law_530 : decode cL_law 530 = .ok (.iaload, 1) := by decide +kernel
theorem dL_law_531 : decode cL_law 531 = .ok (.invokevirtual 69, 3) := by decide +kernel
theorem dL_law_534 : decode cL_law 534 = .ok (.lcmp, 1) := by decide +kernel
theorem dL_law_535 : decode cL_law 535 = .ok (.ifCond .eq 141, 3) := by decide +kernel
theorem dL_law_538 : decode cL_law 538 = .ok (.iconst 0, 1) := by decide +kernel
theorem dL_law_539 : decode cL_law 539 = .ok (.ireturn, 1) := by decide +kernel
theorem dL_law_540 : decode cL_law 540 = .ok (.aload_n 1, 1) := by decide +kernel
theorem dL_law_541 : decode cL_law 541 = .ok (.aload_n 0, 1) := by decide +kernel
theorem dL_law_542 : decode cL_law 542 = .ok (.iload_n 3, 1) := by decide +kernel
theorem dL_law_543 : decode cL_law 543 = .ok (.iconst 1, 1) := by decide +kernel
theorem dL_law_544 : decode cL_law 544 = .ok (.iadd, 1) := by decide +kernel
theorem dL_law_545 : decode cL_law 545 = .ok (.iaload, 1) := by decide +kernel
theorem dL_law_546 : decode cL_law 546 = .ok (.aload_n 0, 1) := by decide +kernel
theorem dL_law_547 : decode cL_law 547 = .ok (.iload_n 3, 1) := by decide +kernel
theorem dL_law_548 : decode cL_law 548 = .ok (.iconst 2, 1) := by decide +kernel
theorem dL_law_549 : decode cL_law 549 = .ok (.iadd, 1) := by decide +kernel
theorem dL_law_550 : decode cL_law 550 = .ok (.iaload, 1) := by decide +kernel
theorem dL_law_551 : decode cL_law 551 = .ok (.invokevirtual 70, 3) := by decide +kernel
theorem dL_law_554 : decode cL_law 554 = .ok (.aload_n 2, 1) := by decide +kernel
theorem dL_law_555 : decode cL_law 555 = .ok (.aload_n 0, 1) := by decide +kernel
theorem dL_law_556 : decode cL_law 556 = .ok (.iload_n 3, 1) := by decide +kernel
theorem dL_law_557 : decode cL_law 557 = .ok (.iconst 1, 1) := by decide +kernel
theorem dL_law_558 : decode cL_law 558 = .ok (.iadd, 1) := by decide +kernel
theorem dL_law_559 : decode cL_law 559 = .ok (.iaload, 1) := by decide +kernel
theorem dL_law_560 : decode cL_law 560 = .ok (.aload_n 0, 1) := by decide +kernel
theorem dL_law_561 : decode cL_law 561 = .ok (.iload_n 3, 1) := by decide +kernel
theorem dL_law_562 : decode cL_law 562 = .ok (.iconst 2, 1) := by decide +kernel
theorem dL_law_563 : decode cL_law 563 = .ok (.iadd, 1) := by decide +kernel
theorem dL_law_564 : decode cL_law 564 = .ok (.iaload, 1) := by decide +kernel
theorem dL_law_565 : decode cL_law 565 = .ok (.invokevirtual 73, 3) := by decide +kernel
theorem dL_law_568 : decode cL_law 568 = .ok (.lcmp, 1) := by decide +kernel
theorem dL_law_569 : decode cL_law 569 = .ok (.ifCond .eq 107, 3) := by decide +kernel
theorem dL_law_572 : decode cL_law 572 = .ok (.iconst 0, 1) := by decide +kernel
theorem dL_law_573 : decode cL_law 573 = .ok (.ireturn, 1) := by decide +kernel
theorem dL_law_574 : decode cL_law 574 = .ok (.aload_n 1, 1) := by decide +kernel
theorem dL_law_575 : decode cL_law 575 = .ok (.aload_n 0, 1) := by decide +kernel
theorem dL_law_576 : decode cL_law 576 = .ok (.iload_n 3, 1) := by decide +kernel
theorem dL_law_577 : decode cL_law 577 = .ok (.iconst 1, 1) := by decide +kernel
theorem dL_law_578 : decode cL_law 578 = .ok (.iadd, 1) := by decide +kernel
theorem dL_law_579 : decode cL_law 579 = .ok (.iaload, 1) := by decide +kernel
theorem dL_law_580 : decode cL_law 580 = .ok (.ifCond .eq 7, 3) := by decide +kernel
theorem dL_law_583 : decode cL_law 583 = .ok (.iconst 1, 1) := by decide +kernel
theorem dL_law_584 : decode cL_law 584 = .ok (.goto 4, 3) := by decide +kernel
theorem dL_law_587 : decode cL_law 587 = .ok (.iconst 0, 1) := by decide +kernel
theorem dL_law_588 : decode cL_law 588 = .ok (.invokevirtual 74, 3) := by decide +kernel
theorem dL_law_591 : decode cL_law 591 = .ok (.aload_n 2, 1) := by decide +kernel
theorem dL_law_592 : decode cL_law 592 = .ok (.aload_n 0, 1) := by decide +kernel
theorem dL_law_593 : decode cL_law 593 = .ok (.iload_n 3, 1) := by decide +kernel
theorem dL_law_594 : decode cL_law 594 = .ok (.iconst 1, 1) := by decide +kernel
theorem dL_law_595 : decode cL_law 595 = .ok (.iadd, 1) := by decide +kernel
theorem dL_law_596 : decode cL_law 596 = .ok (.iaload, 1) := by decide +kernel
theorem dL_law_597 : decode cL_law 597 = .ok (.ifCond .eq 7, 3) := by decide +kernel
theorem dL_law_600 : decode cL_law 600 = .ok (.iconst 1, 1) := by decide +kernel
theorem dL_law_601 : decode cL_law 601 = .ok (.goto 4, 3) := by decide +kernel
theorem dL_law_604 : decode cL_law 604 = .ok (.iconst 0, 1) := by decide +kernel
theorem dL_law_605 : decode cL_law 605 = .ok (.invokevirtual 78, 3) := by decide +kernel
theorem dL_law_608 : decode cL_law 608 = .ok (.lcmp, 1) := by decide +kernel
theorem dL_law_609 : decode cL_law 609 = .ok (.ifCond .eq 67, 3) := by decide +kernel
theorem dL_law_612 : decode cL_law 612 = .ok (.iconst 0, 1) := by decide +kernel
theorem dL_law_613 : decode cL_law 613 = .ok (.ireturn, 1) := by decide +kernel
theorem dL_law_614 : decode cL_law 614 = .ok (.aload_n 1, 1) := by decide +kernel
theorem dL_law_615 : decode cL_law 615 = .ok (.aload_n 0, 1) := by decide +kernel
theorem dL_law_616 : decode cL_law 616 = .ok (.iload_n 3, 1) := by decide +kernel
theorem dL_law_617 : decode cL_law 617 = .ok (.iconst 1, 1) := by decide +kernel
theorem dL_law_618 : decode cL_law 618 = .ok (.iadd, 1) := by decide +kernel
theorem dL_law_619 : decode cL_law 619 = .ok (.iaload, 1) := by decide +kernel
theorem dL_law_620 : decode cL_law 620 = .ok (.invokevirtual 79, 3) := by decide +kernel
theorem dL_law_623 : decode cL_law 623 = .ok (.aload_n 2, 1) := by decide +kernel
theorem dL_law_624 : decode cL_law 624 = .ok (.aload_n 0, 1) := by decide +kernel
theorem dL_law_625 : decode cL_law 625 = .ok (.iload_n 3, 1) := by decide +kernel
theorem dL_law_626 : decode cL_law 626 = .ok (.iconst 1, 1) := by decide +kernel
theorem dL_law_627 : decode cL_law 627 = .ok (.iadd, 1) := by decide +kernel
theorem dL_law_628 : decode cL_law 628 = .ok (.iaload, 1) := by decide +kernel
theorem dL_law_629 : decode cL_law 629 = .ok (.invokevirtual 82, 3) := by decide +kernel
theorem dL_law_632 : decode cL_law 632 = .ok (.lcmp, 1) := by decide +kernel
theorem dL_law_633 : decode cL_law 633 = .ok (.ifCond .eq 43, 3) := by decide +kernel
theorem dL_law_636 : decode cL_law 636 = .ok (.iconst 0, 1) := by decide +kernel
theorem dL_law_637 : decode cL_law 637 = .ok (.ireturn, 1) := by decide +kernel
theorem dL_law_638 : decode cL_law 638 = .ok (.aload_n 1, 1) := by decide +kernel
theorem dL_law_639 : decode cL_law 639 = .ok (.aload_n 0, 1) := by decide +kernel
theorem dL_law_640 : decode cL_law 640 = .ok (.iload_n 3, 1) := by decide +kernel
theorem dL_law_641 : decode cL_law 641 = .ok (.iconst 1, 1) := by decide +kernel
theorem dL_law_642 : decode cL_law 642 = .ok (.iadd, 1) := by decide +kernel
theorem dL_law_643 : decode cL_law 643 = .ok (.iaload, 1) := by decide +kernel
theorem dL_law_644 : decode cL_law 644 = .ok (.invokevirtual 83, 3) := by decide +kernel
theorem dL_law_647 : decode cL_law 647 = .ok (.aload_n 2, 1) := by decide +kernel
theorem dL_law_648 : decode cL_law 648 = .ok (.aload_n 0, 1) := by decide +kernel
theorem dL_law_649 : decode cL_law 649 = .ok (.iload_n 3, 1) := by decide +kernel
theorem dL_law_650 : decode cL_law 650 = .ok (.iconst 1, 1) := by decide +kernel
theorem dL_law_651 : decode cL_law 651 = .ok (.iadd, 1) := by decide +kernel
theorem dL_law_652 : decode cL_law 652 = .ok (.iaload, 1) := by decide +kernel
theorem dL_law_653 : decode cL_law 653 = .ok (.invokevirtual 86, 3) := by decide +kernel
theorem dL_law_656 : decode cL_law 656 = .ok (.lcmp, 1) := by decide +kernel
theorem dL_law_657 : decode cL_law 657 = .ok (.ifCond .eq 19, 3) := by decide +kernel
theorem dL_law_660 : decode cL_law 660 = .ok (.iconst 0, 1) := by decide +kernel
theorem dL_law_661 : decode cL_law 661 = .ok (.ireturn, 1) := by decide +kernel
theorem dL_law_662 : decode cL_law 662 = .ok (.aload_n 1, 1) := by decide +kernel
theorem dL_law_663 : decode cL_law 663 = .ok (.invokevirtual 87, 3) := by decide +kernel
theorem dL_law_666 : decode cL_law 666 = .ok (.aload_n 2, 1) := by decide +kernel
theorem dL_law_667 : decode cL_law 667 = .ok (.invokevirtual 90, 3) := by decide +kernel
theorem dL_law_670 : decode cL_law 670 = .ok (.lcmp, 1) := by decide +kernel
theorem dL_law_671 : decode cL_law 671 = .ok (.ifCond .eq 5, 3) := by decide +kernel
theorem dL_law_674 : decode cL_law 674 = .ok (.iconst 0, 1) := by decide +kernel
theorem dL_law_675 : decode cL_law 675 = .ok (.ireturn, 1) := by decide +kernel
theorem dL_law_676 : decode cL_law 676 = .ok (.iinc 3 5, 3) := by decide +kernel
theorem dL_law_679 : decode cL_law 679 = .ok (.goto (-661), 3) := by decide +kernel
theorem dL_law_682 : decode cL_law 682 = .ok (.iconst 1, 1) := by decide +kernel
theorem dL_law_683 : decode cL_law 683 = .ok (.ireturn, 1) := by decide +kernel
