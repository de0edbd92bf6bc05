theorem dX10_init_0 : decode cX10_init 0 = .ok (.aload_n 0, 1) := by decide +kernel
theorem dX10_init_1 : decode cX10_init 1 = .ok (.invokespecial 1, 3) := by decide +kernel
theorem dX10_init_4 : decode cX10_init 4 = .ok (.aload_n 0, 1) := by decide +kernel
theorem dX10_init_5 : decode cX10_init 5 = .ok (.bipush 64, 2) := by decide +kernel
theorem dX10_init_7 : decode cX10_init 7 = .ok (.newarray .int, 2) := by decide +kernel
theorem dX10_init_9 : decode cX10_init 9 = .ok (.putfield 7, 3) := by decide +kernel
theorem dX10_init_12 : decode cX10_init 12 = .ok (.aload_n 0, 1) := by decide +kernel
theorem dX10_init_13 : decode cX10_init 13 = .ok (.bipush 7, 2) := by decide +kernel
theorem dX10_init_15 : decode cX10_init 15 = .ok (.newarray .int, 2) := by decide +kernel
theorem dX10_init_17 : decode cX10_init 17 = .ok (.putfield 13, 3) := by decide +kernel
theorem dX10_init_20 : decode cX10_init 20 = .ok (.aload_n 0, 1) := by decide +kernel
theorem dX10_init_21 : decode cX10_init 21 = .ok (.sipush 175, 3) := by decide +kernel
theorem dX10_init_24 : decode cX10_init 24 = .ok (.newarray .int, 2) := by decide +kernel
theorem dX10_init_26 : decode cX10_init 26 = .ok (.putfield 16, 3) := by decide +kernel
theorem dX10_init_29 : decode cX10_init 29 = .ok (.aload_n 0, 1) := by decide +kernel
theorem dX10_init_30 : decode cX10_init 30 = .ok (.bipush 7, 2) := by decide +kernel
theorem dX10_init_32 : decode cX10_init 32 = .ok (.newarray .int, 2) := by decide +kernel
theorem dX10_init_34 : decode cX10_init 34 = .ok (.putfield 19, 3) := by decide +kernel
theorem dX10_init_37 : decode cX10_init 37 = .ok (.aload_n 0, 1) := by decide +kernel
theorem dX10_init_38 : decode cX10_init 38 = .ok (.sipush 175, 3) := by decide +kernel
theorem dX10_init_41 : decode cX10_init 41 = .ok (.newarray .int, 2) := by decide +kernel
theorem dX10_init_43 : decode cX10_init 43 = .ok (.putfield 22, 3) := by decide +kernel
theorem dX10_init_46 : decode cX10_init 46 = .ok (.aload_n 0, 1) := by decide +kernel
theorem dX10_init_47 : decode cX10_init 47 = .ok (.bipush 50, 2) := by decide +kernel
theorem dX10_init_49 : decode cX10_init 49 = .ok (.newarray .int, 2) := by decide +kernel
theorem dX10_init_51 : decode cX10_init 51 = .ok (.putfield 25, 3) := by decide +kernel
theorem dX10_init_54 : decode cX10_init 54 = .ok (.aload_n 0, 1) := by decide +kernel
theorem dX10_init_55 : decode cX10_init 55 = .ok (.sipush 600, 3) := by decide +kernel
theorem dX10_init_58 : decode cX10_init 58 = .ok (.newarray .int, 2) := by decide +kernel
theorem dX10_init_60 : decode cX10_init 60 = .ok (.putfield 28, 3) := by decide +kernel
theorem dX10_init_63 : decode cX10_init 63 = .ok (.aload_n 0, 1) := by decide +kernel
theorem dX10_init_64 : decode cX10_init 64 = .ok (.bipush 12, 2) := by decide +kernel
theorem dX10_init_66 : decode cX10_init 66 = .ok (.newarray .long, 2) := by decide +kernel
theorem dX10_init_68 : decode cX10_init 68 = .ok (.putfield 31, 3) := by decide +kernel
theorem dX10_init_71 : decode cX10_init 71 = .ok (.aload_n 0, 1) := by decide +kernel
theorem dX10_init_72 : decode cX10_init 72 = .ok (.bipush 100, 2) := by decide +kernel
theorem dX10_init_74 : decode cX10_init 74 = .ok (.newarray .int, 2) := by decide +kernel
theorem dX10_init_76 : decode cX10_init 76 = .ok (.putfield 35, 3) := by decide +kernel
theorem dX10_init_79 : decode cX10_init 79 = .ok (.aload_n 0, 1) := by decide +kernel
theorem dX10_init_80 : decode cX10_init 80 = .ok (.iconst 2, 1) := by decide +kernel
theorem dX10_init_81 : decode cX10_init 81 = .ok (.newarray .long, 2) := by decide +kernel
theorem dX10_init_83 : decode cX10_init 83 = .ok (.putfield 38, 3) := by decide +kernel
theorem dX10_init_86 : decode cX10_init 86 = .ok (.aload_n 0, 1) := by decide +kernel
theorem dX10_init_87 : decode cX10_init 87 = .ok (.iconst 2, 1) := by decide +kernel
theorem dX10_init_88 : decode cX10_init 88 = .ok (.newarray .boolean, 2) := by decide +kernel
theorem dX10_init_90 : decode cX10_init 90 = .ok (.putfield 41, 3) := by decide +kernel
theorem dX10_init_93 : decode cX10_init 93 = .ok (.aload_n 0, 1) := by decide +kernel
theorem dX10_init_94 : decode cX10_init 94 = .ok (.bipush 6, 2) := by decide +kernel
theorem dX10_init_96 : decode cX10_init 96 = .ok (.newarray .int, 2) := by decide +kernel
theorem dX10_init_98 : decode cX10_init 98 = .ok (.putfield 45, 3) := by decide +kernel
theorem dX10_init_101 : decode cX10_init 101 = .ok (.aload_n 0, 1) := by decide +kernel
theorem dX10_init_102 : decode cX10_init 102 = .ok (.bipush 6, 2) := by decide +kernel
theorem dX10_init_104 : decode cX10_init 104 = .ok (.newarray .int, 2) := by decide +kernel
theorem dX10_init_106 : decode cX10_init 106 = .ok (.putfield 48, 3) := by decide +kernel
theorem dX10_init_109 : decode cX10_init 109 = .ok (.aload_n 0, 1) := by decide +kernel
theorem dX10_init_110 : decode cX10_init 110 = .ok (.bipush 6, 2) := by decide +kernel
theorem dX10_init_112 : decode cX10_init 112 = .ok (.newarray .boolean, 2) := by decide +kernel
theorem dX10_init_114 : decode cX10_init 114 = .ok (.putfield 51, 3) := by decide +kernel
theorem dX10_init_117 : decode cX10_init 117 = .ok (.aload_n 0, 1) := by decide +kernel
theorem dX10_init_118 : decode cX10_init 118 = .ok (.bipush 50, 2) := by decide +kernel
theorem dX10_init_120 : decode cX10_init 120 = .ok (.newarray .int, 2) := by decide +kernel
theorem dX10_init_122 : decode cX10_init 122 = .ok (.putfield 54, 3) := by decide +kernel
theorem dX10_init_125 : decode cX10_init 125 = .ok (.aload_n 0, 1) := by decide +kernel
theorem dX10_init_126 : decode cX10_init 126 = .ok (.bipush 7, 2) := by decide +kernel
theorem dX10_init_128 : decode cX10_init 128 = .ok (.newarray .int, 2) := by decide +kernel
theorem dX10_init_130 : decode cX10_init 130 = .ok (.putfield 57, 3) := by decide +kernel
theorem dX10_init_133 : decode cX10_init 133 = .ok (.aload_n 0, 1) := by decide +kernel
theorem dX10_init_134 : decode cX10_init 134 = .ok (.iconst 5, 1) := by decide +kernel
theorem dX10_init_135 : decode cX10_init 135 = .ok (.newarray .long, 2) := by decide +kernel
theorem dX10_init_137 : decode cX10_init 137 = .ok (.putfield 60, 3) := by decide +kernel
theorem dX10_init_140 : decode cX10_init 140 = .ok (.aload_n 0, 1) := by decide +kernel
theorem dX10_init_141 : decode cX10_init 141 = .ok (.iconst 5, 1) := by decide +kernel
theorem dX10_init_142 : decode cX10_init 142 = .ok (.newarray .long, 2) := by decide +kernel
theorem dX10_init_144 : decode cX10_init 144 = .ok (.putfield 63, 3) := by decide +kernel
theorem dX10_init_147 : decode cX10_init 147 = .ok (.aload_n 0, 1) := by decide +kernel
theorem dX10_init_148 : decode cX10_init 148 = .ok (.bipush 25, 2) := by decide +kernel
theorem dX10_init_150 : decode cX10_init 150 = .ok (.newarray .int, 2) := by decide +kernel
theorem dX10_init_152 : decode cX10_init 152 = .ok (.putfield 66, 3) := by decide +kernel
theorem dX10_init_155 : decode cX10_init 155 = .ok (.aload_n 0, 1) := by decide +kernel
theorem dX10_init_156 : decode cX10_init 156 = .ok (.bipush 25, 2) := by decide +kernel
theorem dX10_init_158 : decode cX10_init 158 = .ok (.newarray .int, 2) := by decide +kernel
theorem dX10_init_160 : decode cX10_init 160 = .ok (.putfield 69, 3) := by decide +kernel
theorem dX10_init_163 : decode cX10_init 163 = .ok (.return_, 1) := by decide +kernel
theorem dX10_in_0 : decode cX10_in 0 = .ok (.lload_n 0, 1) := by decide +kernel
theorem dX10_in_1 : decode cX10_in 1 = .ok (.lload_n 2, 1) := by decide +kernel
theorem dX10_in_2 : decode cX10_in 2 = .ok (.lcmp, 1) := by decide +kernel
theorem dX10_in_3 : decode cX10_in 3 = .ok (.ifCond .lt 14, 3) := by decide +kernel
theorem dX10_in_6 : decode cX10_in 6 = .ok (.lload_n 0, 1) := by decide +kernel
theorem dX10_in_7 : decode cX10_in 7 = .ok (.lload 4, 2) := by decide +kernel
theorem dX10_in_9 : decode cX10_in 9 = .ok (.lcmp, 1) := by decide +kernel
theorem dX10_in_10 : decode cX10_in 10 = .ok (.ifCond .gt 7, 3) := by decide +kernel
theorem dX10_in_13 : decode cX10_in 13 = .ok (.iconst 1, 1) := by decide +kernel
theorem dX10_in_14 : decode cX10_in 14 = .ok (.goto 4, 3) := by decide +kernel
theorem dX10_in_17 : decode cX10_in 17 = .ok (.iconst 0, 1) := by decide +kernel
theorem dX10_in_18 : decode cX10_in 18 = .ok (.ireturn, 1) := by decide +kernel
theorem dX10_has_0 : decode cX10_has 0 = .ok (.iload_n 0, 1) := by decide +kernel
theorem dX10_has_1 : decode cX10_has 1 = .ok (.iload_n 1, 1) := by decide +kernel
theorem dX10_has_2 : decode cX10_has 2 = .ok (.ishr, 1) := by decide +kernel
theorem dX10_has_3 : decode cX10_has 3 = .ok (.iconst 1, 1) := by decide +kernel
theorem dX10_has_4 : decode cX10_has 4 = .ok (.iand, 1) := by decide +kernel
theorem dX10_has_5 : decode cX10_has 5 = .ok (.iconst 1, 1) := by decide +kernel
theorem dX10_has_6 : decode cX10_has 6 = .ok (.if_icmp .ne 7, 3) := by decide +kernel
theorem dX10_has_9 : decode cX10_has 9 = .ok (.iconst 1, 1) := by decide +kernel
theorem dX10_has_10 : decode cX10_has 10 = .ok (.goto 4, 3) := by decide +kernel
theorem dX10_has_13 : decode cX10_has 13 = .ok (.iconst 0, 1) := by decide +kernel
theorem dX10_has_14 : decode cX10_has 14 = .ok (.ireturn, 1) := by decide +kernel
set_option maxRecDepth 20000 in
theorem ggX10_noRank_X10_in : GoodIn wsX10_noRank wsX10_in := goodIn_r _ [5] (by decide +kernel) (by decide +kernel)
set_option maxRecDepth 20000 in
theorem gX10_noRank_X10_in : GoodIn wsX10_noRank (va_wsS RX10 79 yX10_in wsX10_in) := goodIn_app (goodIn_of _ (by decide +kernel)) ggX10_noRank_X10_in
theorem dX10_noRank_0 : decode cX10_noRank 0 = .ok (.iload_n 1, 1) := by decide +kernel
theorem dX10_noRank_1 : decode cX10_noRank 1 = .ok (.i2l, 1) := by decide +kernel
theorem dX10_noRank_2 : decode cX10_noRank 2 = .ok (.lconst 0, 1) := by decide +kernel
theorem dX10_noRank_3 : decode cX10_noRank 3 = .ok (.aload_n 0, 1) := by decide +kernel
theorem dX10_noRank_4 : decode cX10_noRank 4 = .ok (.getfield 76, 3) := by decide +kernel
theorem dX10_noRank_7 : decode cX10_noRank 7 = .ok (.iconst 1, 1) := by decide +kernel
theorem dX10_noRank_8 : decode cX10_noRank 8 = .ok (.isub, 1) := by decide +kernel
theorem dX10_noRank_9 : decode cX10_noRank 9 = .ok (.i2l, 1) := by decide +kernel
theorem dX10_noRank_10 : decode cX10_noRank 10 = .ok (.invokestatic 79, 3) := by decide +kernel
theorem dX10_noRank_13 : decode cX10_noRank 13 = .ok (.ifCond .ne 7, 3) := by decide +kernel
theorem dX10_noRank_16 : decode cX10_noRank 16 = .ok (.iconst 1, 1) := by decide +kernel
theorem dX10_noRank_17 : decode cX10_noRank 17 = .ok (.goto 4, 3) := by decide +kernel
theorem dX10_noRank_20 : decode cX10_noRank 20 = .ok (.iconst 0, 1) := by decide +kernel
theorem dX10_noRank_21 : decode cX10_noRank 21 = .ok (.ireturn, 1) := by decide +kernel
set_option maxRecDepth 20000 in
theorem ggX10_noOrder_X10_in : GoodIn wsX10_noOrder wsX10_in := goodIn_r _ [5] (by decide +kernel) (by decide +kernel)
set_option maxRecDepth 20000 in
theorem gX10_noOrder_X10_in : GoodIn wsX10_noOrder (va_wsS RX10 79 yX10_in wsX10_in) := goodIn_app (goodIn_of _ (by decide +kernel)) ggX10_noOrder_X10_in
theorem dX10_noOrder_0 : decode cX10_noOrder 0 = .ok (.iload_n 0, 1) := by decide +kernel
theorem dX10_noOrder_1 : decode cX10_noOrder 1 = .ok (.i2l, 1) := by decide +kernel
theorem dX10_noOrder_2 : decode cX10_noOrder 2 = .ok (.lconst 0, 1) := by decide +kernel
theorem dX10_noOrder_3 : decode cX10_noOrder 3 = .ok (.ldc2_w 83, 3) := by decide +kernel
theorem dX10_noOrder_6 : decode cX10_noOrder 6 = .ok (.invokestatic 79, 3) := by decide +kernel
theorem dX10_noOrder_9 : decode cX10_noOrder 9 = .ok (.ifCond .ne 7, 3) := by decide +kernel
theorem dX10_noOrder_12 : decode cX10_noOrder 12 = .ok (.iconst 1, 1) := by decide +kernel
theorem dX10_noOrder_13 : decode cX10_noOrder 13 = .ok (.goto 4, 3) := by decide +kernel
theorem dX10_noOrder_16 : decode cX10_noOrder 16 = .ok (.iconst 0, 1) := by decide +kernel
theorem dX10_noOrder_17 : decode cX10_noOrder 17 = .ok (.ireturn, 1) := by decide +kernel
set_option maxRecDepth 20000 in
theorem ggX10_write_X10_in : GoodIn wsX10_write wsX10_in := goodIn_r _ [8] (by decide +kernel) (by decide +kernel)
set_option maxRecDepth 20000 in
theorem gX10_write_X10_in : GoodIn wsX10_write (va_wsS RX10 79 yX10_in wsX10_in) := goodIn_app (goodIn_of _ (by decide +kernel)) ggX10_write_X10_in
theorem dX10_write_0 : decode cX10_write 0 = .ok (.aload_n 0, 1) := by decide +kernel
theorem dX10_write_1 : decode cX10_write 1 = .ok (.iconst 0, 1) := by decide +kernel
theorem dX10_write_2 : decode cX10_write 2 = .ok (.putfield 72, 3) := by decide +kernel
theorem dX10_write_5 : decode cX10_write 5 = .ok (.iload_n 1, 1) := by decide +kernel
theorem dX10_write_6 : decode cX10_write 6 = .ok (.i2l, 1) := by decide +kernel
theorem dX10_write_7 : decode cX10_write 7 = .ok (.lconst 1, 1) := by decide +kernel
theorem dX10_write_8 : decode cX10_write 8 = .ok (.ldc2_w 85, 3) := by decide +kernel
theorem dX10_write_11 : decode cX10_write 11 = .ok (.invokestatic 79, 3) := by decide +kernel
theorem dX10_write_14 : decode cX10_write 14 = .ok (.ifCond .ne 6, 3) := by decide +kernel
theorem dX10_write_17 : decode cX10_write 17 = .ok (.bipush (-2), 2) := by decide +kernel
theorem dX10_write_19 : decode cX10_write 19 = .ok (.ireturn, 1) := by decide +kernel
theorem dX10_write_20 : decode cX10_write 20 = .ok (.aload_n 0, 1) := by decide +kernel
theorem dX10_write_21 : decode cX10_write 21 = .ok (.getfield 87, 3) := by decide +kernel
theorem dX10_write_24 : decode cX10_write 24 = .ok (.iload_n 1, 1) := by decide +kernel
theorem dX10_write_25 : decode cX10_write 25 = .ok (.iadd, 1) := by decide +kernel
theorem dX10_write_26 : decode cX10_write 26 = .ok (.bipush 64, 2) := by decide +kernel
theorem dX10_write_28 : decode cX10_write 28 = .ok (.if_icmp .le 6, 3) := by decide +kernel
theorem dX10_write_31 : decode cX10_write 31 = .ok (.bipush (-4), 2) := by decide +kernel
theorem dX10_write_33 : decode cX10_write 33 = .ok (.ireturn, 1) := by decide +kernel
theorem dX10_write_34 : decode cX10_write 34 = .ok (.iload_n 1, 1) := by decide +kernel
theorem dX10_write_35 : decode cX10_write 35 = .ok (.iconst 1, 1) := by decide +kernel
theorem dX10_write_36 : decode cX10_write 36 = .ok (.isub, 1) := by decide +kernel
theorem dX10_write_37 : decode cX10_write 37 = .ok (.istore 4, 2) := by decide +kernel
theorem dX10_write_39 : decode cX10_write 39 = .ok (.iload 4, 2) := by decide +kernel
theorem dX10_write_41 : decode cX10_write 41 = .ok (.ifCond .lt 40, 3) := by decide +kernel
theorem dX10_write_44 : decode cX10_write 44 = .ok (.aload_n 0, 1) := by decide +kernel
theorem dX10_write_45 : decode cX10_write 45 = .ok (.getfield 7, 3) := by decide +kernel
theorem dX10_write_48 : decode cX10_write 48 = .ok (.aload_n 0, 1) := by decide +kernel
theorem dX10_write_49 : decode cX10_write 49 = .ok (.getfield 87, 3) := by decide +kernel
theorem dX10_write_52 : decode cX10_write 52 = .ok (.lload_n 2, 1) := by decide +kernel
theorem dX10_write_53 : decode cX10_write 53 = .ok (.bipush 8, 2) := by decide +kernel
theorem dX10_write_55 : decode cX10_write 55 = .ok (.iload 4, 2) := by decide +kernel
theorem dX10_write_57 : decode cX10_write 57 = .ok (.imul, 1) := by decide +kernel
theorem dX10_write_58 : decode cX10_write 58 = .ok (.lshr, 1) := by decide +kernel
theorem dX10_write_59 : decode cX10_write 59 = .ok (.l2i, 1) := by decide +kernel
theorem dX10_write_60 : decode cX10_write 60 = .ok (.sipush 255, 3) := by decide +kernel
theorem dX10_write_63 : decode cX10_write 63 = .ok (.iand, 1) := by decide +kernel
theorem dX10_write_64 : decode cX10_write 64 = .ok (.iastore, 1) := by decide +kernel
theorem dX10_write_65 : decode cX10_write 65 = .ok (.aload_n 0, 1) := by decide +kernel
theorem dX10_write_66 : decode cX10_write 66 = .ok (.dup, 1) := by decide +kernel
theorem dX10_write_67 : decode cX10_write 67 = .ok (.getfield 87, 3) := by decide +kernel
theorem dX10_write_70 : decode cX10_write 70 = .ok (.iconst 1, 1) := by decide +kernel
theorem dX10_write_71 : decode cX10_write 71 = .ok (.iadd, 1) := by decide +kernel
theorem dX10_write_72 : decode cX10_write 72 = .ok (.putfield 87, 3) := by decide +kernel
theorem dX10_write_75 : decode cX10_write 75 = .ok (.iinc 4 (-1), 3) := by decide +kernel
theorem dX10_write_78 : decode cX10_write 78 = .ok (.goto (-39), 3) := by decide +kernel
theorem dX10_write_81 : decode cX10_write 81 = .ok (.aload_n 0, 1) := by decide +kernel
theorem dX10_write_82 : decode cX10_write 82 = .ok (.getfield 87, 3) := by decide +kernel
theorem dX10_write_85 : decode cX10_write 85 = .ok (.ireturn, 1) := by decide +kernel
theorem dX10_wipe_0 : decode cX10_wipe 0 = .ok (.aload_n 0, 1) := by decide +kernel
theorem dX10_wipe_1 : decode cX10_wipe 1 = .ok (.iconst 0, 1) := by decide +kernel
theorem dX10_wipe_2 : decode cX10_wipe 2 = .ok (.putfield 72, 3) := by decide +kernel
theorem dX10_wipe_5 : decode cX10_wipe 5 = .ok (.aload_n 0, 1) := by decide +kernel
theorem dX10_wipe_6 : decode cX10_wipe 6 = .ok (.getfield 87, 3) := by decide +kernel
theorem dX10_wipe_9 : decode cX10_wipe 9 = .ok (.istore_n 1, 1) := by decide +kernel
theorem dX10_wipe_10 : decode cX10_wipe 10 = .ok (.aload_n 0, 1) := by decide +kernel
theorem dX10_wipe_11 : decode cX10_wipe 11 = .ok (.iconst 0, 1) := by decide +kernel
theorem dX10_wipe_12 : decode cX10_wipe 12 = .ok (.putfield 87, 3) := by decide +kernel
theorem dX10_wipe_15 : decode cX10_wipe 15 = .ok (.iload_n 1, 1) := by decide +kernel
theorem dX10_wipe_16 : decode cX10_wipe 16 = .ok (.ireturn, 1) := by decide +kernel
set_option maxRecDepth 20000 in
theorem ggX10_figure_X10_in : GoodIn wsX10_figure wsX10_in := goodIn_r _ [7] (by decide +kernel) (by decide +kernel)
set_option maxRecDepth 20000 in
theorem gX10_figure_X10_in : GoodIn wsX10_figure (va_wsS RX10 79 yX10_in wsX10_in) := goodIn_app (goodIn_of _ (by decide +kernel)) ggX10_figure_X10_in
theorem dX10_figure_0 : decode cX10_figure 0 = .ok (.aload_n 0, 1) := by decide +kernel
theorem dX10_figure_1 : decode cX10_figure 1 = .ok (.getfield 90, 3) := by decide +kernel
theorem dX10_figure_4 : decode cX10_figure 4 = .ok (.aload_n 0, 1) := by decide +kernel
theorem dX10_figure_5 : decode cX10_figure 5 = .ok (.getfield 87, 3) := by decide +kernel
theorem dX10_figure_8 : decode cX10_figure 8 = .ok (.if_icmp .eq 26, 3) := by decide +kernel
theorem dX10_figure_11 : decode cX10_figure 11 = .ok (.aload_n 0, 1) := by decide +kernel
theorem dX10_figure_12 : decode cX10_figure 12 = .ok (.getfield 7, 3) := by decide +kernel
theorem dX10_figure_15 : decode cX10_figure 15 = .ok (.aload_n 0, 1) := by decide +kernel
theorem dX10_figure_16 : decode cX10_figure 16 = .ok (.getfield 90, 3) := by decide +kernel
theorem dX10_figure_19 : decode cX10_figure 19 = .ok (.iaload, 1) := by decide +kernel
theorem dX10_figure_20 : decode cX10_figure 20 = .ok (.bipush 48, 2) := by decide +kernel
theorem dX10_figure_22 : decode cX10_figure 22 = .ok (.isub, 1) := by decide +kernel
theorem dX10_figure_23 : decode cX10_figure 23 = .ok (.i2l, 1) := by decide +kernel
theorem dX10_figure_24 : decode cX10_figure 24 = .ok (.iload_n 1, 1) := by decide +kernel
theorem dX10_figure_25 : decode cX10_figure 25 = .ok (.i2l, 1) := by decide +kernel
theorem dX10_figure_26 : decode cX10_figure 26 = .ok (.iload_n 2, 1) := by decide +kernel
theorem dX10_figure_27 : decode cX10_figure 27 = .ok (.i2l, 1) := by decide +kernel
theorem dX10_figure_28 : decode cX10_figure 28 = .ok (.invokestatic 79, 3) := by decide +kernel
theorem dX10_figure_31 : decode cX10_figure 31 = .ok (.ifCond .ne 6, 3) := by decide +kernel
theorem dX10_figure_34 : decode cX10_figure 34 = .ok (.bipush (-9), 2) := by decide +kernel
theorem dX10_figure_36 : decode cX10_figure 36 = .ok (.ireturn, 1) := by decide +kernel
theorem dX10_figure_37 : decode cX10_figure 37 = .ok (.aload_n 0, 1) := by decide +kernel
theorem dX10_figure_38 : decode cX10_figure 38 = .ok (.dup, 1) := by decide +kernel
theorem dX10_figure_39 : decode cX10_figure 39 = .ok (.getfield 90, 3) := by decide +kernel
theorem dX10_figure_42 : decode cX10_figure 42 = .ok (.iconst 1, 1) := by decide +kernel
theorem dX10_figure_43 : decode cX10_figure 43 = .ok (.iadd, 1) := by decide +kernel
theorem dX10_figure_44 : decode cX10_figure 44 = .ok (.putfield 90, 3) := by decide +kernel
theorem dX10_figure_47 : decode cX10_figure 47 = .ok (.aload_n 0, 1) := by decide +kernel
theorem dX10_figure_48 : decode cX10_figure 48 = .ok (.getfield 7, 3) := by decide +kernel
theorem dX10_figure_51 : decode cX10_figure 51 = .ok (.aload_n 0, 1) := by decide +kernel
theorem dX10_figure_52 : decode cX10_figure 52 = .ok (.getfield 90, 3) := by decide +kernel
theorem dX10_figure_55 : decode cX10_figure 55 = .ok (.iconst 1, 1) := by decide +kernel
theorem dX10_figure_56 : decode cX10_figure 56 = .ok (.isub, 1) := by decide +kernel
theorem dX10_figure_57 : decode cX10_figure 57 = .ok (.iaload, 1) := by decide +kernel
theorem dX10_figure_58 : decode cX10_figure 58 = .ok (.bipush 48, 2) := by decide +kernel
theorem dX10_figure_60 : decode cX10_figure 60 = .ok (.isub, 1) := by decide +kernel
theorem dX10_figure_61 : decode cX10_figure 61 = .ok (.ireturn, 1) := by decide +kernel
theorem dX10_readRank_0 : decode cX10_readRank 0 = .ok (.aload_n 0, 1) := by decide +kernel
theorem dX10_readRank_1 : decode cX10_readRank 1 = .ok (.getfield 90, 3) := by decide +kernel
theorem dX10_readRank_4 : decode cX10_readRank 4 = .ok (.aload_n 0, 1) := by decide +kernel
theorem dX10_readRank_5 : decode cX10_readRank 5 = .ok (.getfield 87, 3) := by decide +kernel
theorem dX10_readRank_8 : decode cX10_readRank 8 = .ok (.if_icmp .ne 5, 3) := by decide +kernel
theorem dX10_readRank_11 : decode cX10_readRank 11 = .ok (.iconst 0, 1) := by decide +kernel
theorem dX10_readRank_12 : decode cX10_readRank 12 = .ok (.ireturn, 1) := by decide +kernel
theorem dX10_readRank_13 : decode cX10_readRank 13 = .ok (.aload_n 0, 1) := by decide +kernel
theorem dX10_readRank_14 : decode cX10_readRank 14 = .ok (.getfield 7, 3) := by decide +kernel
theorem dX10_readRank_17 : decode cX10_readRank 17 = .ok (.aload_n 0, 1) := by decide +kernel
theorem dX10_readRank_18 : decode cX10_readRank 18 = .ok (.getfield 90, 3) := by decide +kernel
theorem dX10_readRank_21 : decode cX10_readRank 21 = .ok (.iaload, 1) := by decide +kernel
theorem dX10_readRank_22 : decode cX10_readRank 22 = .ok (.istore_n 1, 1) := by decide +kernel
theorem dX10_readRank_23 : decode cX10_readRank 23 = .ok (.iload_n 1, 1) := by decide +kernel
theorem dX10_readRank_24 : decode cX10_readRank 24 = .ok (.bipush 112, 2) := by decide +kernel
theorem dX10_readRank_26 : decode cX10_readRank 26 = .ok (.if_icmp .ne 7, 3) := by decide +kernel
theorem dX10_readRank_29 : decode cX10_readRank 29 = .ok (.iconst 0, 1) := by decide +kernel
theorem dX10_readRank_30 : decode cX10_readRank 30 = .ok (.goto 35, 3) := by decide +kernel
theorem dX10_readRank_33 : decode cX10_readRank 33 = .ok (.iload_n 1, 1) := by decide +kernel
theorem dX10_readRank_34 : decode cX10_readRank 34 = .ok (.bipush 100, 2) := by decide +kernel
theorem dX10_readRank_36 : decode cX10_readRank 36 = .ok (.if_icmp .ne 7, 3) := by decide +kernel
theorem dX10_readRank_39 : decode cX10_readRank 39 = .ok (.iconst 1, 1) := by decide +kernel
theorem dX10_readRank_40 : decode cX10_readRank 40 = .ok (.goto 25, 3) := by decide +kernel
theorem dX10_readRank_43 : decode cX10_readRank 43 = .ok (.iload_n 1, 1) := by decide +kernel
theorem dX10_readRank_44 : decode cX10_readRank 44 = .ok (.bipush 102, 2) := by decide +kernel
theorem dX10_readRank_46 : decode cX10_readRank 46 = .ok (.if_icmp .ne 7, 3) := by decide +kernel
theorem dX10_readRank_49 : decode cX10_readRank 49 = .ok (.iconst 2, 1) := by decide +kernel
theorem dX10_readRank_50 : decode cX10_readRank 50 = .ok (.goto 15, 3) := by decide +kernel
theorem dX10_readRank_53 : decode cX10_readRank 53 = .ok (.iload_n 1, 1) := by decide +kernel
theorem dX10_readRank_54 : decode cX10_readRank 54 = .ok (.bipush 115, 2) := by decide +kernel
theorem dX10_readRank_56 : decode cX10_readRank 56 = .ok (.if_icmp .ne 7, 3) := by decide +kernel
theorem dX10_readRank_59 : decode cX10_readRank 59 = .ok (.iconst 3, 1) := by decide +kernel
theorem dX10_readRank_60 : decode cX10_readRank 60 = .ok (.goto 5, 3) := by decide +kernel
theorem dX10_readRank_63 : decode cX10_readRank 63 = .ok (.bipush (-9), 2) := by decide +kernel
theorem dX10_readRank_65 : decode cX10_readRank 65 = .ok (.istore_n 2, 1) := by decide +kernel
theorem dX10_readRank_66 : decode cX10_readRank 66 = .ok (.iload_n 2, 1) := by decide +kernel
theorem dX10_readRank_67 : decode cX10_readRank 67 = .ok (.bipush (-9), 2) := by decide +kernel
theorem dX10_readRank_69 : decode cX10_readRank 69 = .ok (.if_icmp .ne 5, 3) := by decide +kernel
theorem dX10_readRank_72 : decode cX10_readRank 72 = .ok (.iconst 0, 1) := by decide +kernel
theorem dX10_readRank_73 : decode cX10_readRank 73 = .ok (.ireturn, 1) := by decide +kernel
theorem dX10_readRank_74 : decode cX10_readRank 74 = .ok (.aload_n 0, 1) := by decide +kernel
theorem dX10_readRank_75 : decode cX10_readRank 75 = .ok (.dup, 1) := by decide +kernel
theorem dX10_readRank_76 : decode cX10_readRank 76 = .ok (.getfield 90, 3) := by decide +kernel
theorem dX10_readRank_79 : decode cX10_readRank 79 = .ok (.iconst 1, 1) := by decide +kernel
theorem dX10_readRank_80 : decode cX10_readRank 80 = .ok (.iadd, 1) := by decide +kernel
theorem dX10_readRank_81 : decode cX10_readRank 81 = .ok (.putfield 90, 3) := by decide +kernel
theorem dX10_readRank_84 : decode cX10_readRank 84 = .ok (.aload_n 0, 1) := by decide +kernel
theorem dX10_readRank_85 : decode cX10_readRank 85 = .ok (.getfield 19, 3) := by decide +kernel
theorem dX10_readRank_88 : decode cX10_readRank 88 = .ok (.aload_n 0, 1) := by decide +kernel
theorem dX10_readRank_89 : decode cX10_readRank 89 = .ok (.getfield 93, 3) := by decide +kernel
theorem dX10_readRank_92 : decode cX10_readRank 92 = .ok (.iload_n 2, 1) := by decide +kernel
theorem dX10_readRank_93 : decode cX10_readRank 93 = .ok (.iastore, 1) := by decide +kernel
theorem dX10_readRank_94 : decode cX10_readRank 94 = .ok (.aload_n 0, 1) := by decide +kernel
theorem dX10_readRank_95 : decode cX10_readRank 95 = .ok (.dup, 1) := by decide +kernel
theorem dX10_readRank_96 : decode cX10_readRank 96 = .ok (.getfield 93, 3) := by decide +kernel
theorem dX10_readRank_99 : decode cX10_readRank 99 = .ok (.iconst 1, 1) := by decide +kernel
theorem dX10_readRank_100 : decode cX10_readRank 100 = .ok (.iadd, 1) := by decide +kernel
theorem dX10_readRank_101 : decode cX10_readRank 101 = .ok (.putfield 93, 3) := by decide +kernel
theorem dX10_readRank_104 : decode cX10_readRank 104 = .ok (.iconst 1, 1) := by decide +kernel
theorem dX10_readRank_105 : decode cX10_readRank 105 = .ok (.ireturn, 1) := by decide +kernel
theorem dX10_left_0 : decode cX10_left 0 = .ok (.iconst 0, 1) := by decide +kernel
theorem dX10_left_1 : decode cX10_left 1 = .ok (.istore_n 3, 1) := by decide +kernel
theorem dX10_left_2 : decode cX10_left 2 = .ok (.iconst 0, 1) := by decide +kernel
theorem dX10_left_3 : decode cX10_left 3 = .ok (.istore 4, 2) := by decide +kernel
theorem dX10_left_5 : decode cX10_left 5 = .ok (.iconst 0, 1) := by decide +kernel
theorem dX10_left_6 : decode cX10_left 6 = .ok (.istore 5, 2) := by decide +kernel
theorem dX10_left_8 : decode cX10_left 8 = .ok (.iload 5, 2) := by decide +kernel
theorem dX10_left_10 : decode cX10_left 10 = .ok (.iconst 5, 1) := by decide +kernel
theorem dX10_left_11 : decode cX10_left 11 = .ok (.if_icmp .ge 57, 3) := by decide +kernel
theorem dX10_left_14 : decode cX10_left 14 = .ok (.iload_n 3, 1) := by decide +kernel
theorem dX10_left_15 : decode cX10_left 15 = .ok (.aload_n 0, 1) := by decide +kernel
theorem dX10_left_16 : decode cX10_left 16 = .ok (.getfield 22, 3) := by decide +kernel
theorem dX10_left_19 : decode cX10_left 19 = .ok (.bipush 25, 2) := by decide +kernel
theorem dX10_left_21 : decode cX10_left 21 = .ok (.iload_n 1, 1) := by decide +kernel
theorem dX10_left_22 : decode cX10_left 22 = .ok (.imul, 1) := by decide +kernel
theorem dX10_left_23 : decode cX10_left 23 = .ok (.iconst 5, 1) := by decide +kernel
theorem dX10_left_24 : decode cX10_left 24 = .ok (.iload_n 2, 1) := by decide +kernel
theorem dX10_left_25 : decode cX10_left 25 = .ok (.imul, 1) := by decide +kernel
theorem dX10_left_26 : decode cX10_left 26 = .ok (.iadd, 1) := by decide +kernel
theorem dX10_left_27 : decode cX10_left 27 = .ok (.iload 5, 2) := by decide +kernel
theorem dX10_left_29 : decode cX10_left 29 = .ok (.iadd, 1) := by decide +kernel
theorem dX10_left_30 : decode cX10_left 30 = .ok (.iaload, 1) := by decide +kernel
theorem dX10_left_31 : decode cX10_left 31 = .ok (.iadd, 1) := by decide +kernel
theorem dX10_left_32 : decode cX10_left 32 = .ok (.istore_n 3, 1) := by decide +kernel
theorem dX10_left_33 : decode cX10_left 33 = .ok (.iload 4, 2) := by decide +kernel
theorem dX10_left_35 : decode cX10_left 35 = .ok (.aload_n 0, 1) := by decide +kernel
theorem dX10_left_36 : decode cX10_left 36 = .ok (.getfield 22, 3) := by decide +kernel
theorem dX10_left_39 : decode cX10_left 39 = .ok (.bipush 25, 2) := by decide +kernel
theorem dX10_left_41 : decode cX10_left 41 = .ok (.iload_n 1, 1) := by decide +kernel
theorem dX10_left_42 : decode cX10_left 42 = .ok (.imul, 1) := by decide +kernel
theorem dX10_left_43 : decode cX10_left 43 = .ok (.iconst 5, 1) := by decide +kernel
theorem dX10_left_44 : decode cX10_left 44 = .ok (.iload_n 2, 1) := by decide +kernel
theorem dX10_left_45 : decode cX10_left 45 = .ok (.imul, 1) := by decide +kernel
theorem dX10_left_46 : decode cX10_left 46 = .ok (.iadd, 1) := by decide +kernel
theorem dX10_left_47 : decode cX10_left 47 = .ok (.iload 5, 2) := by decide +kernel
theorem dX10_left_49 : decode cX10_left 49 = .ok (.iadd, 1) := by decide +kernel
theorem dX10_left_50 : decode cX10_left 50 = .ok (.iaload, 1) := by decide +kernel
theorem dX10_left_51 : decode cX10_left 51 = .ok (.ifCond .le 7, 3) := by decide +kernel
theorem dX10_left_54 : decode cX10_left 54 = .ok (.iconst 1, 1) := by decide +kernel
theorem dX10_left_55 : decode cX10_left 55 = .ok (.goto 4, 3) := by decide +kernel
theorem dX10_left_58 : decode cX10_left 58 = .ok (.iconst 0, 1) := by decide +kernel
theorem dX10_left_59 : decode cX10_left 59 = .ok (.iadd, 1) := by decide +kernel
theorem dX10_left_60 : decode cX10_left 60 = .ok (.istore 4, 2) := by decide +kernel
theorem dX10_left_62 : decode cX10_left 62 = .ok (.iinc 5 1, 3) := by decide +kernel
theorem dX10_left_65 : decode cX10_left 65 = .ok (.goto (-57), 3) := by decide +kernel
theorem dX10_left_68 : decode cX10_left 68 = .ok (.iload 4, 2) := by decide +kernel
theorem dX10_left_70 : decode cX10_left 70 = .ok (.iconst 4, 1) := by decide +kernel
theorem dX10_left_71 : decode cX10_left 71 = .ok (.if_icmp .ne 7, 3) := by decide +kernel
theorem dX10_left_74 : decode cX10_left 74 = .ok (.iconst 0, 1) := by decide +kernel
theorem dX10_left_75 : decode cX10_left 75 = .ok (.goto 7, 3) := by decide +kernel
theorem dX10_left_78 : decode cX10_left 78 = .ok (.bipush 10, 2) := by decide +kernel
theorem dX10_left_80 : decode cX10_left 80 = .ok (.iload_n 3, 1) := by decide +kernel
theorem dX10_left_81 : decode cX10_left 81 = .ok (.isub, 1) := by decide +kernel
theorem dX10_left_82 : decode cX10_left 82 = .ok (.ireturn, 1) := by decide +kernel
set_option maxRecDepth 20000 in
theorem ggX10_hasLeft_X10_left : GoodIn wsX10_hasLeft wsX10_left := goodIn_r _ [5, 6, 7, 8, 9, 10, 11, 12, 13, 14, 15, 16, 17, 18, 19, 20, 21, 22, 23, 24, 25, 26, 27, 28, 29, 30, 31, 32, 33, 34, 35, 36, 37] (by decide +kernel) (by decide +kernel)
set_option maxRecDepth 20000 in
theorem gX10_hasLeft_X10_left : GoodIn wsX10_hasLeft (wsV RX10 96 RX10 yX10_left wsX10_left) := goodIn_app (goodIn_of _ (by decide +kernel)) ggX10_hasLeft_X10_left
theorem dX10_hasLeft_0 : decode cX10_hasLeft 0 = .ok (.iconst 0, 1) := by decide +kernel
theorem dX10_hasLeft_1 : decode cX10_hasLeft 1 = .ok (.istore_n 2, 1) := by decide +kernel
theorem dX10_hasLeft_2 : decode cX10_hasLeft 2 = .ok (.iconst 0, 1) := by decide +kernel
theorem dX10_hasLeft_3 : decode cX10_hasLeft 3 = .ok (.istore_n 3, 1) := by decide +kernel
theorem dX10_hasLeft_4 : decode cX10_hasLeft 4 = .ok (.iload_n 3, 1) := by decide +kernel
theorem dX10_hasLeft_5 : decode cX10_hasLeft 5 = .ok (.iconst 5, 1) := by decide +kernel
theorem dX10_hasLeft_6 : decode cX10_hasLeft 6 = .ok (.if_icmp .ge 28, 3) := by decide +kernel
theorem dX10_hasLeft_9 : decode cX10_hasLeft 9 = .ok (.iload_n 2, 1) := by decide +kernel
theorem dX10_hasLeft_10 : decode cX10_hasLeft 10 = .ok (.ifCond .ne 12, 3) := by decide +kernel
theorem dX10_hasLeft_13 : decode cX10_hasLeft 13 = .ok (.aload_n 0, 1) := by decide +kernel
theorem dX10_hasLeft_14 : decode cX10_hasLeft 14 = .ok (.iload_n 1, 1) := by decide +kernel
theorem dX10_hasLeft_15 : decode cX10_hasLeft 15 = .ok (.iload_n 3, 1) := by decide +kernel
theorem dX10_hasLeft_16 : decode cX10_hasLeft 16 = .ok (.invokevirtual 96, 3) := by decide +kernel
theorem dX10_hasLeft_19 : decode cX10_hasLeft 19 = .ok (.ifCond .le 7, 3) := by decide +kernel
theorem dX10_hasLeft_22 : decode cX10_hasLeft 22 = .ok (.iconst 1, 1) := by decide +kernel
theorem dX10_hasLeft_23 : decode cX10_hasLeft 23 = .ok (.goto 4, 3) := by decide +kernel
theorem dX10_hasLeft_26 : decode cX10_hasLeft 26 = .ok (.iconst 0, 1) := by decide +kernel
theorem dX10_hasLeft_27 : decode cX10_hasLeft 27 = .ok (.istore_n 2, 1) := by decide +kernel
theorem dX10_hasLeft_28 : decode cX10_hasLeft 28 = .ok (.iinc 3 1, 3) := by decide +kernel
theorem dX10_hasLeft_31 : decode cX10_hasLeft 31 = .ok (.goto (-27), 3) := by decide +kernel
theorem dX10_hasLeft_34 : decode cX10_hasLeft 34 = .ok (.iload_n 2, 1) := by decide +kernel
theorem dX10_hasLeft_35 : decode cX10_hasLeft 35 = .ok (.ireturn, 1) := by decide +kernel
set_option maxRecDepth 20000 in
theorem ggX10_hasWay_X10_hasLeft : GoodIn wsX10_hasWay wsX10_hasLeft := goodIn_r _ [6, 7, 8, 9, 5, 10, 11, 12, 13, 14, 15, 16, 17, 18, 19, 20, 21, 22, 23, 24, 25, 26, 27, 28, 29, 30, 31, 32, 33, 34, 35, 36, 37, 38, 39, 40, 41, 42] (by decide +kernel) (by decide +kernel)
set_option maxRecDepth 20000 in
theorem gX10_hasWay_X10_hasLeft : GoodIn wsX10_hasWay (wsV RX10 100 RX10 yX10_hasLeft wsX10_hasLeft) := goodIn_app (goodIn_of _ (by decide +kernel)) ggX10_hasWay_X10_hasLeft
theorem dX10_hasWay_0 : decode cX10_hasWay 0 = .ok (.iconst 0, 1) := by decide +kernel
theorem dX10_hasWay_1 : decode cX10_hasWay 1 = .ok (.istore_n 1, 1) := by decide +kernel
theorem dX10_hasWay_2 : decode cX10_hasWay 2 = .ok (.iconst 1, 1) := by decide +kernel
theorem dX10_hasWay_3 : decode cX10_hasWay 3 = .ok (.istore_n 2, 1) := by decide +kernel
theorem dX10_hasWay_4 : decode cX10_hasWay 4 = .ok (.iload_n 2, 1) := by decide +kernel
theorem dX10_hasWay_5 : decode cX10_hasWay 5 = .ok (.aload_n 0, 1) := by decide +kernel
theorem dX10_hasWay_6 : decode cX10_hasWay 6 = .ok (.getfield 93, 3) := by decide +kernel
theorem dX10_hasWay_9 : decode cX10_hasWay 9 = .ok (.if_icmp .ge 27, 3) := by decide +kernel
theorem dX10_hasWay_12 : decode cX10_hasWay 12 = .ok (.iload_n 1, 1) := by decide +kernel
theorem dX10_hasWay_13 : decode cX10_hasWay 13 = .ok (.ifCond .ne 11, 3) := by decide +kernel
theorem dX10_hasWay_16 : decode cX10_hasWay 16 = .ok (.aload_n 0, 1) := by decide +kernel
theorem dX10_hasWay_17 : decode cX10_hasWay 17 = .ok (.iload_n 2, 1) := by decide +kernel
theorem dX10_hasWay_18 : decode cX10_hasWay 18 = .ok (.invokevirtual 100, 3) := by decide +kernel
theorem dX10_hasWay_21 : decode cX10_hasWay 21 = .ok (.ifCond .eq 7, 3) := by decide +kernel
theorem dX10_hasWay_24 : decode cX10_hasWay 24 = .ok (.iconst 1, 1) := by decide +kernel
theorem dX10_hasWay_25 : decode cX10_hasWay 25 = .ok (.goto 4, 3) := by decide +kernel
theorem dX10_hasWay_28 : decode cX10_hasWay 28 = .ok (.iconst 0, 1) := by decide +kernel
theorem dX10_hasWay_29 : decode cX10_hasWay 29 = .ok (.istore_n 1, 1) := by decide +kernel
theorem dX10_hasWay_30 : decode cX10_hasWay 30 = .ok (.iinc 2 1, 3) := by decide +kernel
theorem dX10_hasWay_33 : decode cX10_hasWay 33 = .ok (.goto (-29), 3) := by decide +kernel
theorem dX10_hasWay_36 : decode cX10_hasWay 36 = .ok (.iload_n 1, 1) := by decide +kernel
theorem dX10_hasWay_37 : decode cX10_hasWay 37 = .ok (.ireturn, 1) := by decide +kernel
set_option maxRecDepth 20000 in
theorem ggX10_readSlip_X10_in : GoodIn wsX10_readSlip wsX10_in := goodIn_r _ [10] (by decide +kernel) (by decide +kernel)
set_option maxRecDepth 20000 in
theorem gX10_readSlip_X10_in : GoodIn wsX10_readSlip (va_wsS RX10 79 yX10_in wsX10_in) := goodIn_app (goodIn_of _ (by decide +kernel)) ggX10_readSlip_X10_in
set_option maxRecDepth 20000 in
theorem ggX10_readSlip_X10_hasLeft : GoodIn wsX10_readSlip wsX10_hasLeft := goodIn_r _ [14, 15, 16, 17, 9, 18, 5, 27, 28, 29, 30, 31, 32, 33, 34, 35, 36, 37, 38, 39, 40, 41, 42, 43, 44, 45, 46, 47, 48, 49, 50, 51, 52, 53, 54, 55, 56, 57] (by decide +kernel) (by decide +kernel)
set_option maxRecDepth 20000 in
theorem gX10_readSlip_X10_hasLeft : GoodIn wsX10_readSlip (wsV RX10 100 RX10 yX10_hasLeft wsX10_hasLeft) := goodIn_app (goodIn_of _ (by decide +kernel)) ggX10_readSlip_X10_hasLeft
set_option maxRecDepth 20000 in
theorem ggX10_readSlip_X10_noOrder : GoodIn wsX10_readSlip wsX10_noOrder := goodIn_r _ [21, 22, 7, 8, 9, 10] (by decide +kernel) (by decide +kernel)
set_option maxRecDepth 20000 in
theorem gX10_readSlip_X10_noOrder : GoodIn wsX10_readSlip (va_wsS RX10 104 yX10_noOrder wsX10_noOrder) := goodIn_app (goodIn_of _ (by decide +kernel)) ggX10_readSlip_X10_noOrder
set_option maxRecDepth 20000 in
theorem ggX10_readSlip_X10_left : GoodIn wsX10_readSlip wsX10_left := goodIn_r _ [18, 5, 27, 28, 29, 30, 31, 32, 33, 34, 35, 36, 37, 38, 39, 40, 41, 42, 43, 44, 45, 46, 47, 48, 49, 50, 51, 52, 53, 54, 55, 56, 57] (by decide +kernel) (by decide +kernel)
set_option maxRecDepth 20000 in
theorem gX10_readSlip_X10_left : GoodIn wsX10_readSlip (wsV RX10 96 RX10 yX10_left wsX10_left) := goodIn_app (goodIn_of _ (by decide +kernel)) ggX10_readSlip_X10_left
set_option maxRecDepth 20000 in
theorem ggX10_readSlip_X10_figure : GoodIn wsX10_readSlip wsX10_figure := goodIn_r _ [26, 1, 2, 3, 7, 8, 9, 10, 27, 28, 29, 30, 31, 32, 33, 34, 35, 36, 37, 38, 39, 40, 41, 42, 43, 44, 45, 46, 47, 48, 49, 50, 51, 52, 53, 54, 55, 56, 57] (by decide +kernel) (by decide +kernel)
set_option maxRecDepth 20000 in
theorem gX10_readSlip_X10_figure : GoodIn wsX10_readSlip (wsV RX10 107 RX10 yX10_figure wsX10_figure) := goodIn_app (goodIn_of _ (by decide +kernel)) ggX10_readSlip_X10_figure
theorem dX10_readSlip_0 : decode cX10_readSlip 0 = .ok (.aload_n 0, 1) := by decide +kernel
theorem dX10_readSlip_1 : decode cX10_readSlip 1 = .ok (.getfield 90, 3) := by decide +kernel
theorem dX10_readSlip_4 : decode cX10_readSlip 4 = .ok (.aload_n 0, 1) := by decide +kernel
theorem dX10_readSlip_5 : decode cX10_readSlip 5 = .ok (.getfield 87, 3) := by decide +kernel
theorem dX10_readSlip_8 : decode cX10_readSlip 8 = .ok (.if_icmp .ge 18, 3) := by decide +kernel
theorem dX10_readSlip_11 : decode cX10_readSlip 11 = .ok (.aload_n 0, 1) := by decide +kernel
theorem dX10_readSlip_12 : decode cX10_readSlip 12 = .ok (.getfield 7, 3) := by decide +kernel
theorem dX10_readSlip_15 : decode cX10_readSlip 15 = .ok (.aload_n 0, 1) := by decide +kernel
theorem dX10_readSlip_16 : decode cX10_readSlip 16 = .ok (.getfield 90, 3) := by decide +kernel
theorem dX10_readSlip_19 : decode cX10_readSlip 19 = .ok (.iaload, 1) := by decide +kernel
theorem dX10_readSlip_20 : decode cX10_readSlip 20 = .ok (.bipush 48, 2) := by decide +kernel
theorem dX10_readSlip_22 : decode cX10_readSlip 22 = .ok (.isub, 1) := by decide +kernel
theorem dX10_readSlip_23 : decode cX10_readSlip 23 = .ok (.goto 5, 3) := by decide +kernel
theorem dX10_readSlip_26 : decode cX10_readSlip 26 = .ok (.bipush (-9), 2) := by decide +kernel
theorem dX10_readSlip_28 : decode cX10_readSlip 28 = .ok (.istore_n 1, 1) := by decide +kernel
theorem dX10_readSlip_29 : decode cX10_readSlip 29 = .ok (.iload_n 1, 1) := by decide +kernel
theorem dX10_readSlip_30 : decode cX10_readSlip 30 = .ok (.i2l, 1) := by decide +kernel
theorem dX10_readSlip_31 : decode cX10_readSlip 31 = .ok (.lconst 1, 1) := by decide +kernel
theorem dX10_readSlip_32 : decode cX10_readSlip 32 = .ok (.aload_n 0, 1) := by decide +kernel
theorem dX10_readSlip_33 : decode cX10_readSlip 33 = .ok (.getfield 93, 3) := by decide +kernel
theorem dX10_readSlip_36 : decode cX10_readSlip 36 = .ok (.iconst 1, 1) := by decide +kernel
theorem dX10_readSlip_37 : decode cX10_readSlip 37 = .ok (.isub, 1) := by decide +kernel
theorem dX10_readSlip_38 : decode cX10_readSlip 38 = .ok (.i2l, 1) := by decide +kernel
theorem dX10_readSlip_39 : decode cX10_readSlip 39 = .ok (.invokestatic 79, 3) := by decide +kernel
theorem dX10_readSlip_42 : decode cX10_readSlip 42 = .ok (.ifCond .eq 11, 3) := by decide +kernel
theorem dX10_readSlip_45 : decode cX10_readSlip 45 = .ok (.aload_n 0, 1) := by decide +kernel
theorem dX10_readSlip_46 : decode cX10_readSlip 46 = .ok (.iload_n 1, 1) := by decide +kernel
theorem dX10_readSlip_47 : decode cX10_readSlip 47 = .ok (.invokevirtual 100, 3) := by decide +kernel
theorem dX10_readSlip_50 : decode cX10_readSlip 50 = .ok (.ifCond .ne 5, 3) := by decide +kernel
theorem dX10_readSlip_53 : decode cX10_readSlip 53 = .ok (.iconst 0, 1) := by decide +kernel
theorem dX10_readSlip_54 : decode cX10_readSlip 54 = .ok (.ireturn, 1) := by decide +kernel
theorem dX10_readSlip_55 : decode cX10_readSlip 55 = .ok (.aload_n 0, 1) := by decide +kernel
theorem dX10_readSlip_56 : decode cX10_readSlip 56 = .ok (.dup, 1) := by decide +kernel
theorem dX10_readSlip_57 : decode cX10_readSlip 57 = .ok (.getfield 90, 3) := by decide +kernel
theorem dX10_readSlip_60 : decode cX10_readSlip 60 = .ok (.iconst 1, 1) := by decide +kernel
theorem dX10_readSlip_61 : decode cX10_readSlip 61 = .ok (.iadd, 1) := by decide +kernel
theorem dX10_readSlip_62 : decode cX10_readSlip 62 = .ok (.putfield 90, 3) := by decide +kernel
theorem dX10_readSlip_65 : decode cX10_readSlip 65 = .ok (.aload_n 0, 1) := by decide +kernel
theorem dX10_readSlip_66 : decode cX10_readSlip 66 = .ok (.getfield 90, 3) := by decide +kernel
theorem dX10_readSlip_69 : decode cX10_readSlip 69 = .ok (.aload_n 0, 1) := by decide +kernel
theorem dX10_readSlip_70 : decode cX10_readSlip 70 = .ok (.getfield 87, 3) := by decide +kernel
theorem dX10_readSlip_73 : decode cX10_readSlip 73 = .ok (.if_icmp .ge 18, 3) := by decide +kernel
theorem dX10_readSlip_76 : decode cX10_readSlip 76 = .ok (.aload_n 0, 1) := by decide +kernel
theorem dX10_readSlip_77 : decode cX10_readSlip 77 = .ok (.getfield 7, 3) := by decide +kernel
theorem dX10_readSlip_80 : decode cX10_readSlip 80 = .ok (.aload_n 0, 1) := by decide +kernel
theorem dX10_readSlip_81 : decode cX10_readSlip 81 = .ok (.getfield 90, 3) := by decide +kernel
theorem dX10_readSlip_84 : decode cX10_readSlip 84 = .ok (.iaload, 1) := by decide +kernel
theorem dX10_readSlip_85 : decode cX10_readSlip 85 = .ok (.bipush 48, 2) := by decide +kernel
theorem dX10_readSlip_87 : decode cX10_readSlip 87 = .ok (.isub, 1) := by decide +kernel
theorem dX10_readSlip_88 : decode cX10_readSlip 88 = .ok (.goto 5, 3) := by decide +kernel
theorem dX10_readSlip_91 : decode cX10_readSlip 91 = .ok (.bipush (-9), 2) := by decide +kernel
theorem dX10_readSlip_93 : decode cX10_readSlip 93 = .ok (.istore_n 2, 1) := by decide +kernel
theorem dX10_readSlip_94 : decode cX10_readSlip 94 = .ok (.iload_n 2, 1) := by decide +kernel
theorem dX10_readSlip_95 : decode cX10_readSlip 95 = .ok (.invokestatic 104, 3) := by decide +kernel
theorem dX10_readSlip_98 : decode cX10_readSlip 98 = .ok (.ifCond .ne 12, 3) := by decide +kernel
theorem dX10_readSlip_101 : decode cX10_readSlip 101 = .ok (.aload_n 0, 1) := by decide +kernel
theorem dX10_readSlip_102 : decode cX10_readSlip 102 = .ok (.iload_n 1, 1) := by decide +kernel
theorem dX10_readSlip_103 : decode cX10_readSlip 103 = .ok (.iload_n 2, 1) := by decide +kernel
theorem dX10_readSlip_104 : decode cX10_readSlip 104 = .ok (.invokevirtual 96, 3) := by decide +kernel
theorem dX10_readSlip_107 : decode cX10_readSlip 107 = .ok (.ifCond .ne 5, 3) := by decide +kernel
theorem dX10_readSlip_110 : decode cX10_readSlip 110 = .ok (.iconst 0, 1) := by decide +kernel
theorem dX10_readSlip_111 : decode cX10_readSlip 111 = .ok (.ireturn, 1) := by decide +kernel
theorem dX10_readSlip_112 : decode cX10_readSlip 112 = .ok (.aload_n 0, 1) := by decide +kernel
theorem dX10_readSlip_113 : decode cX10_readSlip 113 = .ok (.dup, 1) := by decide +kernel
theorem dX10_readSlip_114 : decode cX10_readSlip 114 = .ok (.getfield 90, 3) := by decide +kernel
theorem dX10_readSlip_117 : decode cX10_readSlip 117 = .ok (.iconst 1, 1) := by decide +kernel
theorem dX10_readSlip_118 : decode cX10_readSlip 118 = .ok (.iadd, 1) := by decide +kernel
theorem dX10_readSlip_119 : decode cX10_readSlip 119 = .ok (.putfield 90, 3) := by decide +kernel
theorem dX10_readSlip_122 : decode cX10_readSlip 122 = .ok (.aload_n 0, 1) := by decide +kernel
theorem dX10_readSlip_123 : decode cX10_readSlip 123 = .ok (.getfield 90, 3) := by decide +kernel
theorem dX10_readSlip_126 : decode cX10_readSlip 126 = .ok (.aload_n 0, 1) := by decide +kernel
theorem dX10_readSlip_127 : decode cX10_readSlip 127 = .ok (.getfield 87, 3) := by decide +kernel
theorem dX10_readSlip_130 : decode cX10_readSlip 130 = .ok (.if_icmp .ge 18, 3) := by decide +kernel
theorem dX10_readSlip_133 : decode cX10_readSlip 133 = .ok (.aload_n 0, 1) := by decide +kernel
theorem dX10_readSlip_134 : decode cX10_readSlip 134 = .ok (.getfield 7, 3) := by decide +kernel
theorem dX10_readSlip_137 : decode cX10_readSlip 137 = .ok (.aload_n 0, 1) := by decide +kernel
theorem dX10_readSlip_138 : decode cX10_readSlip 138 = .ok (.getfield 90, 3) := by decide +kernel
theorem dX10_readSlip_141 : decode cX10_readSlip 141 = .ok (.iaload, 1) := by decide +kernel
theorem dX10_readSlip_142 : decode cX10_readSlip 142 = .ok (.bipush 48, 2) := by decide +kernel
theorem dX10_readSlip_144 : decode cX10_readSlip 144 = .ok (.isub, 1) := by decide +kernel
theorem dX10_readSlip_145 : decode cX10_readSlip 145 = .ok (.goto 5, 3) := by decide +kernel
theorem dX10_readSlip_148 : decode cX10_readSlip 148 = .ok (.bipush (-9), 2) := by decide +kernel
theorem dX10_readSlip_150 : decode cX10_readSlip 150 = .ok (.istore_n 3, 1) := by decide +kernel
theorem dX10_readSlip_151 : decode cX10_readSlip 151 = .ok (.iload_n 3, 1) := by decide +kernel
theorem dX10_readSlip_152 : decode cX10_readSlip 152 = .ok (.invokestatic 104, 3) := by decide +kernel
theorem dX10_readSlip_155 : decode cX10_readSlip 155 = .ok (.ifCond .ne 26, 3) := by decide +kernel
theorem dX10_readSlip_158 : decode cX10_readSlip 158 = .ok (.iload_n 2, 1) := by decide +kernel
theorem dX10_readSlip_159 : decode cX10_readSlip 159 = .ok (.iload_n 3, 1) := by decide +kernel
theorem dX10_readSlip_160 : decode cX10_readSlip 160 = .ok (.if_icmp .eq 21, 3) := by decide +kernel
theorem dX10_readSlip_163 : decode cX10_readSlip 163 = .ok (.aload_n 0, 1) := by decide +kernel
theorem dX10_readSlip_164 : decode cX10_readSlip 164 = .ok (.getfield 22, 3) := by decide +kernel
theorem dX10_readSlip_167 : decode cX10_readSlip 167 = .ok (.bipush 25, 2) := by decide +kernel
theorem dX10_readSlip_169 : decode cX10_readSlip 169 = .ok (.iload_n 1, 1) := by decide +kernel
theorem dX10_readSlip_170 : decode cX10_readSlip 170 = .ok (.imul, 1) := by decide +kernel
theorem dX10_readSlip_171 : decode cX10_readSlip 171 = .ok (.iconst 5, 1) := by decide +kernel
theorem dX10_readSlip_172 : decode cX10_readSlip 172 = .ok (.iload_n 2, 1) := by decide +kernel
theorem dX10_readSlip_173 : decode cX10_readSlip 173 = .ok (.imul, 1) := by decide +kernel
theorem dX10_readSlip_174 : decode cX10_readSlip 174 = .ok (.iadd, 1) := by decide +kernel
theorem dX10_readSlip_175 : decode cX10_readSlip 175 = .ok (.iload_n 3, 1) := by decide +kernel
theorem dX10_readSlip_176 : decode cX10_readSlip 176 = .ok (.iadd, 1) := by decide +kernel
theorem dX10_readSlip_177 : decode cX10_readSlip 177 = .ok (.iaload, 1) := by decide +kernel
theorem dX10_readSlip_178 : decode cX10_readSlip 178 = .ok (.ifCond .le 5, 3) := by decide +kernel
theorem dX10_readSlip_181 : decode cX10_readSlip 181 = .ok (.iconst 0, 1) := by decide +kernel
theorem dX10_readSlip_182 : decode cX10_readSlip 182 = .ok (.ireturn, 1) := by decide +kernel
theorem dX10_readSlip_183 : decode cX10_readSlip 183 = .ok (.aload_n 0, 1) := by decide +kernel
theorem dX10_readSlip_184 : decode cX10_readSlip 184 = .ok (.dup, 1) := by decide +kernel
theorem dX10_readSlip_185 : decode cX10_readSlip 185 = .ok (.getfield 90, 3) := by decide +kernel
theorem dX10_readSlip_188 : decode cX10_readSlip 188 = .ok (.iconst 1, 1) := by decide +kernel
theorem dX10_readSlip_189 : decode cX10_readSlip 189 = .ok (.iadd, 1) := by decide +kernel
theorem dX10_readSlip_190 : decode cX10_readSlip 190 = .ok (.putfield 90, 3) := by decide +kernel
theorem dX10_readSlip_193 : decode cX10_readSlip 193 = .ok (.aload_n 0, 1) := by decide +kernel
theorem dX10_readSlip_194 : decode cX10_readSlip 194 = .ok (.iload_n 1, 1) := by decide +kernel
theorem dX10_readSlip_195 : decode cX10_readSlip 195 = .ok (.iload_n 2, 1) := by decide +kernel
theorem dX10_readSlip_196 : decode cX10_readSlip 196 = .ok (.invokevirtual 96, 3) := by decide +kernel
theorem dX10_readSlip_199 : decode cX10_readSlip 199 = .ok (.istore 4, 2) := by decide +kernel
theorem dX10_readSlip_201 : decode cX10_readSlip 201 = .ok (.aload_n 0, 1) := by decide +kernel
theorem dX10_readSlip_202 : decode cX10_readSlip 202 = .ok (.iconst 1, 1) := by decide +kernel
theorem dX10_readSlip_203 : decode cX10_readSlip 203 = .ok (.iload 4, 2) := by decide +kernel
theorem dX10_readSlip_205 : decode cX10_readSlip 205 = .ok (.bipush 9, 2) := by decide +kernel
theorem dX10_readSlip_207 : decode cX10_readSlip 207 = .ok (.if_icmp .le 8, 3) := by decide +kernel
theorem dX10_readSlip_210 : decode cX10_readSlip 210 = .ok (.bipush 9, 2) := by decide +kernel
theorem dX10_readSlip_212 : decode cX10_readSlip 212 = .ok (.goto 5, 3) := by decide +kernel
theorem dX10_readSlip_215 : decode cX10_readSlip 215 = .ok (.iload 4, 2) := by decide +kernel
theorem dX10_readSlip_217 : decode cX10_readSlip 217 = .ok (.invokevirtual 107, 3) := by decide +kernel
theorem dX10_readSlip_220 : decode cX10_readSlip 220 = .ok (.istore 5, 2) := by decide +kernel
theorem dX10_readSlip_222 : decode cX10_readSlip 222 = .ok (.iload 5, 2) := by decide +kernel
theorem dX10_readSlip_224 : decode cX10_readSlip 224 = .ok (.bipush (-9), 2) := by decide +kernel
theorem dX10_readSlip_226 : decode cX10_readSlip 226 = .ok (.if_icmp .ne 5, 3) := by decide +kernel
theorem dX10_readSlip_229 : decode cX10_readSlip 229 = .ok (.iconst 0, 1) := by decide +kernel
theorem dX10_readSlip_230 : decode cX10_readSlip 230 = .ok (.ireturn, 1) := by decide +kernel
theorem dX10_readSlip_231 : decode cX10_readSlip 231 = .ok (.aload_n 0, 1) := by decide +kernel
theorem dX10_readSlip_232 : decode cX10_readSlip 232 = .ok (.getfield 22, 3) := by decide +kernel
theorem dX10_readSlip_235 : decode cX10_readSlip 235 = .ok (.bipush 25, 2) := by decide +kernel
theorem dX10_readSlip_237 : decode cX10_readSlip 237 = .ok (.iload_n 1, 1) := by decide +kernel
theorem dX10_readSlip_238 : decode cX10_readSlip 238 = .ok (.imul, 1) := by decide +kernel
theorem dX10_readSlip_239 : decode cX10_readSlip 239 = .ok (.iconst 5, 1) := by decide +kernel
theorem dX10_readSlip_240 : decode cX10_readSlip 240 = .ok (.iload_n 2, 1) := by decide +kernel
theorem dX10_readSlip_241 : decode cX10_readSlip 241 = .ok (.imul, 1) := by decide +kernel
theorem dX10_readSlip_242 : decode cX10_readSlip 242 = .ok (.iadd, 1) := by decide +kernel
theorem dX10_readSlip_243 : decode cX10_readSlip 243 = .ok (.iload_n 3, 1) := by decide +kernel
theorem dX10_readSlip_244 : decode cX10_readSlip 244 = .ok (.iadd, 1) := by decide +kernel
theorem dX10_readSlip_245 : decode cX10_readSlip 245 = .ok (.iload 5, 2) := by decide +kernel
theorem dX10_readSlip_247 : decode cX10_readSlip 247 = .ok (.iastore, 1) := by decide +kernel
theorem dX10_readSlip_248 : decode cX10_readSlip 248 = .ok (.aload_n 0, 1) := by decide +kernel
theorem dX10_readSlip_249 : decode cX10_readSlip 249 = .ok (.dup, 1) := by decide +kernel
theorem dX10_readSlip_250 : decode cX10_readSlip 250 = .ok (.getfield 110, 3) := by decide +kernel
theorem dX10_readSlip_253 : decode cX10_readSlip 253 = .ok (.iconst 1, 1) := by decide +kernel
theorem dX10_readSlip_254 : decode cX10_readSlip 254 = .ok (.iadd, 1) := by decide +kernel
theorem dX10_readSlip_255 : decode cX10_readSlip 255 = .ok (.putfield 110, 3) := by decide +kernel
theorem dX10_readSlip_258 : decode cX10_readSlip 258 = .ok (.iconst 1, 1) := by decide +kernel
theorem dX10_readSlip_259 : decode cX10_readSlip 259 = .ok (.ireturn, 1) := by decide +kernel
set_option maxRecDepth 20000 in
theorem ggX10_readPart_X10_readRank : GoodIn wsX10_readPart wsX10_readRank := goodIn_r _ [9, 2, 10, 1, 11, 3, 40, 41, 42, 43, 44, 45, 46, 47, 48, 49, 50, 51, 52, 53, 54, 55, 56, 57, 58, 59, 60, 61, 62, 63, 64, 65, 66, 67, 68, 69, 70] (by decide +kernel) (by decide +kernel)
set_option maxRecDepth 20000 in
theorem gX10_readPart_X10_readRank : GoodIn wsX10_readPart (wsV RX10 113 RX10 yX10_readRank wsX10_readRank) := goodIn_app (goodIn_of _ (by decide +kernel)) ggX10_readPart_X10_readRank
set_option maxRecDepth 20000 in
theorem ggX10_readPart_X10_hasWay : GoodIn wsX10_readPart wsX10_hasWay := goodIn_r _ [15, 3, 16, 17, 18, 8, 19, 20, 21, 22, 23, 24, 40, 41, 42, 43, 44, 45, 46, 47, 48, 49, 50, 51, 52, 53, 54, 55, 56, 57, 58, 59, 60, 61, 62, 63, 64, 65, 66, 67, 68, 69, 70] (by decide +kernel) (by decide +kernel)
set_option maxRecDepth 20000 in
theorem gX10_readPart_X10_hasWay : GoodIn wsX10_readPart (wsV RX10 117 RX10 yX10_hasWay wsX10_hasWay) := goodIn_app (goodIn_of _ (by decide +kernel)) ggX10_readPart_X10_hasWay
set_option maxRecDepth 20000 in
theorem ggX10_readPart_X10_readSlip : GoodIn wsX10_readPart wsX10_readSlip := goodIn_r _ [28, 2, 10, 1, 3, 24, 4, 29, 30, 8, 31, 16, 17, 18, 19, 20, 21, 22, 23, 32, 33, 34, 35, 36, 37, 38, 39, 40, 41, 42, 43, 44, 45, 46, 47, 48, 49, 50, 51, 52, 53, 54, 55, 56, 57, 58, 59, 60, 61, 62, 63, 64, 65, 66, 67, 68, 69, 70] (by decide +kernel) (by decide +kernel)
set_option maxRecDepth 20000 in
theorem gX10_readPart_X10_readSlip : GoodIn wsX10_readPart (wsV RX10 120 RX10 yX10_readSlip wsX10_readSlip) := goodIn_app (goodIn_of _ (by decide +kernel)) ggX10_readPart_X10_readSlip
theorem dX10_readPart_0 : decode cX10_readPart 0 = .ok (.aload_n 0, 1) := by decide +kernel
theorem dX10_readPart_1 : decode cX10_readPart 1 = .ok (.getfield 7, 3) := by decide +kernel
theorem dX10_readPart_4 : decode cX10_readPart 4 = .ok (.aload_n 0, 1) := by decide +kernel
theorem dX10_readPart_5 : decode cX10_readPart 5 = .ok (.getfield 90, 3) := by decide +kernel
theorem dX10_readPart_8 : decode cX10_readPart 8 = .ok (.iaload, 1) := by decide +kernel
theorem dX10_readPart_9 : decode cX10_readPart 9 = .ok (.istore_n 1, 1) := by decide +kernel
theorem dX10_readPart_10 : decode cX10_readPart 10 = .ok (.iload_n 1, 1) := by decide +kernel
theorem dX10_readPart_11 : decode cX10_readPart 11 = .ok (.bipush 82, 2) := by decide +kernel
theorem dX10_readPart_13 : decode cX10_readPart 13 = .ok (.if_icmp .ne 27, 3) := by decide +kernel
theorem dX10_readPart_16 : decode cX10_readPart 16 = .ok (.aload_n 0, 1) := by decide +kernel
theorem dX10_readPart_17 : decode cX10_readPart 17 = .ok (.getfield 93, 3) := by decide +kernel
theorem dX10_readPart_20 : decode cX10_readPart 20 = .ok (.bipush 7, 2) := by decide +kernel
theorem dX10_readPart_22 : decode cX10_readPart 22 = .ok (.if_icmp .ge 18, 3) := by decide +kernel
theorem dX10_readPart_25 : decode cX10_readPart 25 = .ok (.aload_n 0, 1) := by decide +kernel
theorem dX10_readPart_26 : decode cX10_readPart 26 = .ok (.dup, 1) := by decide +kernel
theorem dX10_readPart_27 : decode cX10_readPart 27 = .ok (.getfield 90, 3) := by decide +kernel
theorem dX10_readPart_30 : decode cX10_readPart 30 = .ok (.iconst 1, 1) := by decide +kernel
theorem dX10_readPart_31 : decode cX10_readPart 31 = .ok (.iadd, 1) := by decide +kernel
theorem dX10_readPart_32 : decode cX10_readPart 32 = .ok (.putfield 90, 3) := by decide +kernel
theorem dX10_readPart_35 : decode cX10_readPart 35 = .ok (.aload_n 0, 1) := by decide +kernel
theorem dX10_readPart_36 : decode cX10_readPart 36 = .ok (.invokevirtual 113, 3) := by decide +kernel
theorem dX10_readPart_39 : decode cX10_readPart 39 = .ok (.ireturn, 1) := by decide +kernel
theorem dX10_readPart_40 : decode cX10_readPart 40 = .ok (.iload_n 1, 1) := by decide +kernel
theorem dX10_readPart_41 : decode cX10_readPart 41 = .ok (.bipush 83, 2) := by decide +kernel
theorem dX10_readPart_43 : decode cX10_readPart 43 = .ok (.if_icmp .ne 34, 3) := by decide +kernel
theorem dX10_readPart_46 : decode cX10_readPart 46 = .ok (.aload_n 0, 1) := by decide +kernel
theorem dX10_readPart_47 : decode cX10_readPart 47 = .ok (.getfield 110, 3) := by decide +kernel
theorem dX10_readPart_50 : decode cX10_readPart 50 = .ok (.bipush 9, 2) := by decide +kernel
theorem dX10_readPart_52 : decode cX10_readPart 52 = .ok (.if_icmp .ge 25, 3) := by decide +kernel
theorem dX10_readPart_55 : decode cX10_readPart 55 = .ok (.aload_n 0, 1) := by decide +kernel
theorem dX10_readPart_56 : decode cX10_readPart 56 = .ok (.invokevirtual 117, 3) := by decide +kernel
theorem dX10_readPart_59 : decode cX10_readPart 59 = .ok (.ifCond .eq 18, 3) := by decide +kernel
theorem dX10_readPart_62 : decode cX10_readPart 62 = .ok (.aload_n 0, 1) := by decide +kernel
theorem dX10_readPart_63 : decode cX10_readPart 63 = .ok (.dup, 1) := by decide +kernel
theorem dX10_readPart_64 : decode cX10_readPart 64 = .ok (.getfield 90, 3) := by decide +kernel
theorem dX10_readPart_67 : decode cX10_readPart 67 = .ok (.iconst 1, 1) := by decide +kernel
theorem dX10_readPart_68 : decode cX10_readPart 68 = .ok (.iadd, 1) := by decide +kernel
theorem dX10_readPart_69 : decode cX10_readPart 69 = .ok (.putfield 90, 3) := by decide +kernel
theorem dX10_readPart_72 : decode cX10_readPart 72 = .ok (.aload_n 0, 1) := by decide +kernel
theorem dX10_readPart_73 : decode cX10_readPart 73 = .ok (.invokevirtual 120, 3) := by decide +kernel
theorem dX10_readPart_76 : decode cX10_readPart 76 = .ok (.ireturn, 1) := by decide +kernel
theorem dX10_readPart_77 : decode cX10_readPart 77 = .ok (.iconst 0, 1) := by decide +kernel
theorem dX10_readPart_78 : decode cX10_readPart 78 = .ok (.ireturn, 1) := by decide +kernel
set_option maxRecDepth 20000 in
theorem ggX10_readArmy_X10_readPart : GoodIn wsX10_readArmy wsX10_readPart := goodIn_r _ [11, 6, 1, 2, 3, 12, 13, 14, 10, 15, 5, 16, 17, 18, 19, 20, 21, 22, 23, 24, 25, 26, 27, 28, 4, 29, 30, 31, 32, 33, 34, 35, 36, 37, 38, 39, 40, 41, 42, 43, 44, 45, 46, 47, 48, 49, 50, 51, 52, 53, 54, 55, 56, 57, 58, 59, 60, 61, 62, 63, 64, 65, 66, 67, 68, 69, 70, 71, 72, 73, 74] (by decide +kernel) (by decide +kernel)
set_option maxRecDepth 20000 in
theorem gX10_readArmy_X10_readPart : GoodIn wsX10_readArmy (wsV RX10 123 RX10 yX10_readPart wsX10_readPart) := goodIn_app (goodIn_of _ (by decide +kernel)) ggX10_readArmy_X10_readPart
theorem dX10_readArmy_0 : decode cX10_readArmy 0 = .ok (.aload_n 0, 1) := by decide +kernel
theorem dX10_readArmy_1 : decode cX10_readArmy 1 = .ok (.iconst 0, 1) := by decide +kernel
theorem dX10_readArmy_2 : decode cX10_readArmy 2 = .ok (.putfield 90, 3) := by decide +kernel
theorem dX10_readArmy_5 : decode cX10_readArmy 5 = .ok (.aload_n 0, 1) := by decide +kernel
theorem dX10_readArmy_6 : decode cX10_readArmy 6 = .ok (.iconst 0, 1) := by decide +kernel
theorem dX10_readArmy_7 : decode cX10_readArmy 7 = .ok (.putfield 93, 3) := by decide +kernel
theorem dX10_readArmy_10 : decode cX10_readArmy 10 = .ok (.aload_n 0, 1) := by decide +kernel
theorem dX10_readArmy_11 : decode cX10_readArmy 11 = .ok (.iconst 0, 1) := by decide +kernel
theorem dX10_readArmy_12 : decode cX10_readArmy 12 = .ok (.putfield 110, 3) := by decide +kernel
theorem dX10_readArmy_15 : decode cX10_readArmy 15 = .ok (.iconst 0, 1) := by decide +kernel
theorem dX10_readArmy_16 : decode cX10_readArmy 16 = .ok (.istore_n 1, 1) := by decide +kernel
theorem dX10_readArmy_17 : decode cX10_readArmy 17 = .ok (.iload_n 1, 1) := by decide +kernel
theorem dX10_readArmy_18 : decode cX10_readArmy 18 = .ok (.sipush 175, 3) := by decide +kernel
theorem dX10_readArmy_21 : decode cX10_readArmy 21 = .ok (.if_icmp .ge 16, 3) := by decide +kernel
theorem dX10_readArmy_24 : decode cX10_readArmy 24 = .ok (.aload_n 0, 1) := by decide +kernel
theorem dX10_readArmy_25 : decode cX10_readArmy 25 = .ok (.getfield 22, 3) := by decide +kernel
theorem dX10_readArmy_28 : decode cX10_readArmy 28 = .ok (.iload_n 1, 1) := by decide +kernel
theorem dX10_readArmy_29 : decode cX10_readArmy 29 = .ok (.iconst 0, 1) := by decide +kernel
theorem dX10_readArmy_30 : decode cX10_readArmy 30 = .ok (.iastore, 1) := by decide +kernel
theorem dX10_readArmy_31 : decode cX10_readArmy 31 = .ok (.iinc 1 1, 3) := by decide +kernel
theorem dX10_readArmy_34 : decode cX10_readArmy 34 = .ok (.goto (-17), 3) := by decide +kernel
theorem dX10_readArmy_37 : decode cX10_readArmy 37 = .ok (.aload_n 0, 1) := by decide +kernel
theorem dX10_readArmy_38 : decode cX10_readArmy 38 = .ok (.getfield 87, 3) := by decide +kernel
theorem dX10_readArmy_41 : decode cX10_readArmy 41 = .ok (.ifCond .eq 14, 3) := by decide +kernel
theorem dX10_readArmy_44 : decode cX10_readArmy 44 = .ok (.aload_n 0, 1) := by decide +kernel
theorem dX10_readArmy_45 : decode cX10_readArmy 45 = .ok (.getfield 7, 3) := by decide +kernel
theorem dX10_readArmy_48 : decode cX10_readArmy 48 = .ok (.iconst 0, 1) := by decide +kernel
theorem dX10_readArmy_49 : decode cX10_readArmy 49 = .ok (.iaload, 1) := by decide +kernel
theorem dX10_readArmy_50 : decode cX10_readArmy 50 = .ok (.bipush 72, 2) := by decide +kernel
theorem dX10_readArmy_52 : decode cX10_readArmy 52 = .ok (.if_icmp .eq 5, 3) := by decide +kernel
theorem dX10_readArmy_55 : decode cX10_readArmy 55 = .ok (.iconst 0, 1) := by decide +kernel
theorem dX10_readArmy_56 : decode cX10_readArmy 56 = .ok (.ireturn, 1) := by decide +kernel
theorem dX10_readArmy_57 : decode cX10_readArmy 57 = .ok (.aload_n 0, 1) := by decide +kernel
theorem dX10_readArmy_58 : decode cX10_readArmy 58 = .ok (.iconst 1, 1) := by decide +kernel
theorem dX10_readArmy_59 : decode cX10_readArmy 59 = .ok (.putfield 90, 3) := by decide +kernel
theorem dX10_readArmy_62 : decode cX10_readArmy 62 = .ok (.aload_n 0, 1) := by decide +kernel
theorem dX10_readArmy_63 : decode cX10_readArmy 63 = .ok (.getfield 90, 3) := by decide +kernel
theorem dX10_readArmy_66 : decode cX10_readArmy 66 = .ok (.aload_n 0, 1) := by decide +kernel
theorem dX10_readArmy_67 : decode cX10_readArmy 67 = .ok (.getfield 87, 3) := by decide +kernel
theorem dX10_readArmy_70 : decode cX10_readArmy 70 = .ok (.if_icmp .ge 15, 3) := by decide +kernel
theorem dX10_readArmy_73 : decode cX10_readArmy 73 = .ok (.aload_n 0, 1) := by decide +kernel
theorem dX10_readArmy_74 : decode cX10_readArmy 74 = .ok (.invokevirtual 123, 3) := by decide +kernel
theorem dX10_readArmy_77 : decode cX10_readArmy 77 = .ok (.ifCond .ne (-15), 3) := by decide +kernel
theorem dX10_readArmy_80 : decode cX10_readArmy 80 = .ok (.aload_n 0, 1) := by decide +kernel
theorem dX10_readArmy_81 : decode cX10_readArmy 81 = .ok (.getfield 90, 3) := by decide +kernel
theorem dX10_readArmy_84 : decode cX10_readArmy 84 = .ok (.ireturn, 1) := by decide +kernel
theorem dX10_readArmy_85 : decode cX10_readArmy 85 = .ok (.bipush (-9), 2) := by decide +kernel
theorem dX10_readArmy_87 : decode cX10_readArmy 87 = .ok (.ireturn, 1) := by decide +kernel
set_option maxRecDepth 20000 in
theorem ggX10_fault_X10_readArmy : GoodIn wsX10_fault wsX10_readArmy := goodIn_r _ [6, 7, 8, 9, 10, 11, 12, 13, 14, 15, 5, 16, 17, 18, 19, 20, 21, 22, 23, 24, 25, 26, 27, 28, 29, 30, 31, 32, 33, 34, 35, 36, 37, 38, 39, 40, 41, 42, 43, 44, 45, 46, 47, 48, 49, 50, 51, 52, 53, 54, 55, 56, 57, 58, 59, 60, 61, 62, 63, 64, 65, 66, 67, 68, 69, 70, 71, 72, 73, 74, 75, 76, 77, 78, 79] (by decide +kernel) (by decide +kernel)
set_option maxRecDepth 20000 in
theorem gX10_fault_X10_readArmy : GoodIn wsX10_fault (wsV RX10 126 RX10 yX10_readArmy wsX10_readArmy) := goodIn_app (goodIn_of _ (by decide +kernel)) ggX10_fault_X10_readArmy
theorem dX10_fault_0 : decode cX10_fault 0 = .ok (.aload_n 0, 1) := by decide +kernel
theorem dX10_fault_1 : decode cX10_fault 1 = .ok (.iconst 0, 1) := by decide +kernel
theorem dX10_fault_2 : decode cX10_fault 2 = .ok (.putfield 72, 3) := by decide +kernel
theorem dX10_fault_5 : decode cX10_fault 5 = .ok (.aload_n 0, 1) := by decide +kernel
theorem dX10_fault_6 : decode cX10_fault 6 = .ok (.invokevirtual 126, 3) := by decide +kernel
theorem dX10_fault_9 : decode cX10_fault 9 = .ok (.ireturn, 1) := by decide +kernel
set_option maxRecDepth 20000 in
theorem ggX10_army_X10_readArmy : GoodIn wsX10_army wsX10_readArmy := goodIn_r _ [17, 18, 2, 4, 7, 19, 20, 21, 22, 23, 16, 24, 25, 26, 27, 28, 9, 29, 30, 31, 32, 33, 34, 35, 36, 37, 38, 39, 40, 41, 42, 43, 44, 45, 46, 47, 48, 49, 50, 51, 52, 53, 54, 55, 56, 57, 58, 59, 60, 61, 62, 63, 64, 65, 66, 67, 68, 69, 70, 71, 72, 73, 74, 75, 76, 77, 78, 79, 80, 81, 82, 83, 84, 85, 86] (by decide +kernel) (by decide +kernel)
set_option maxRecDepth 20000 in
theorem gX10_army_X10_readArmy : GoodIn wsX10_army (wsV RX10 126 RX10 yX10_readArmy wsX10_readArmy) := goodIn_app (goodIn_of _ (by decide +kernel)) ggX10_army_X10_readArmy
theorem dX10_army_0 : decode cX10_army 0 = .ok (.aload_n 0, 1) := by decide +kernel
theorem dX10_army_1 : decode cX10_army 1 = .ok (.iconst 0, 1) := by decide +kernel
theorem dX10_army_2 : decode cX10_army 2 = .ok (.putfield 72, 3) := by decide +kernel
theorem dX10_army_5 : decode cX10_army 5 = .ok (.aload_n 0, 1) := by decide +kernel
theorem dX10_army_6 : decode cX10_army 6 = .ok (.invokevirtual 126, 3) := by decide +kernel
theorem dX10_army_9 : decode cX10_army 9 = .ok (.bipush (-9), 2) := by decide +kernel
theorem dX10_army_11 : decode cX10_army 11 = .ok (.if_icmp .eq 6, 3) := by decide +kernel
theorem dX10_army_14 : decode cX10_army 14 = .ok (.bipush (-3), 2) := by decide +kernel
theorem dX10_army_16 : decode cX10_army 16 = .ok (.ireturn, 1) := by decide +kernel
theorem dX10_army_17 : decode cX10_army 17 = .ok (.aload_n 0, 1) := by decide +kernel
theorem dX10_army_18 : decode cX10_army 18 = .ok (.aload_n 0, 1) := by decide +kernel
theorem dX10_army_19 : decode cX10_army 19 = .ok (.getfield 93, 3) := by decide +kernel
theorem dX10_army_22 : decode cX10_army 22 = .ok (.putfield 76, 3) := by decide +kernel
theorem dX10_army_25 : decode cX10_army 25 = .ok (.aload_n 0, 1) := by decide +kernel
theorem dX10_army_26 : decode cX10_army 26 = .ok (.aload_n 0, 1) := by decide +kernel
theorem dX10_army_27 : decode cX10_army 27 = .ok (.getfield 110, 3) := by decide +kernel
theorem dX10_army_30 : decode cX10_army 30 = .ok (.putfield 130, 3) := by decide +kernel
theorem dX10_army_33 : decode cX10_army 33 = .ok (.iconst 0, 1) := by decide +kernel
theorem dX10_army_34 : decode cX10_army 34 = .ok (.istore_n 1, 1) := by decide +kernel
theorem dX10_army_35 : decode cX10_army 35 = .ok (.iload_n 1, 1) := by decide +kernel
theorem dX10_army_36 : decode cX10_army 36 = .ok (.sipush 175, 3) := by decide +kernel
theorem dX10_army_39 : decode cX10_army 39 = .ok (.if_icmp .ge 21, 3) := by decide +kernel
theorem dX10_army_42 : decode cX10_army 42 = .ok (.aload_n 0, 1) := by decide +kernel
theorem dX10_army_43 : decode cX10_army 43 = .ok (.getfield 16, 3) := by decide +kernel
theorem dX10_army_46 : decode cX10_army 46 = .ok (.iload_n 1, 1) := by decide +kernel
theorem dX10_army_47 : decode cX10_army 47 = .ok (.aload_n 0, 1) := by decide +kernel
theorem dX10_army_48 : decode cX10_army 48 = .ok (.getfield 22, 3) := by decide +kernel
theorem dX10_army_51 : decode cX10_army 51 = .ok (.iload_n 1, 1) := by decide +kernel
theorem dX10_army_52 : decode cX10_army 52 = .ok (.iaload, 1) := by decide +kernel
theorem dX10_army_53 : decode cX10_army 53 = .ok (.iastore, 1) := by decide +kernel
theorem dX10_army_54 : decode cX10_army 54 = .ok (.iinc 1 1, 3) := by decide +kernel
theorem dX10_army_57 : decode cX10_army 57 = .ok (.goto (-22), 3) := by decide +kernel
theorem dX10_army_60 : decode cX10_army 60 = .ok (.iconst 0, 1) := by decide +kernel
theorem dX10_army_61 : decode cX10_army 61 = .ok (.istore_n 1, 1) := by decide +kernel
theorem dX10_army_62 : decode cX10_army 62 = .ok (.iload_n 1, 1) := by decide +kernel
theorem dX10_army_63 : decode cX10_army 63 = .ok (.bipush 7, 2) := by decide +kernel
theorem dX10_army_65 : decode cX10_army 65 = .ok (.if_icmp .ge 125, 3) := by decide +kernel
theorem dX10_army_68 : decode cX10_army 68 = .ok (.aload_n 0, 1) := by decide +kernel
theorem dX10_army_69 : decode cX10_army 69 = .ok (.getfield 13, 3) := by decide +kernel
theorem dX10_army_72 : decode cX10_army 72 = .ok (.iload_n 1, 1) := by decide +kernel
theorem dX10_army_73 : decode cX10_army 73 = .ok (.iload_n 1, 1) := by decide +kernel
theorem dX10_army_74 : decode cX10_army 74 = .ok (.aload_n 0, 1) := by decide +kernel
theorem dX10_army_75 : decode cX10_army 75 = .ok (.getfield 76, 3) := by decide +kernel
theorem dX10_army_78 : decode cX10_army 78 = .ok (.if_icmp .ge 12, 3) := by decide +kernel
theorem dX10_army_81 : decode cX10_army 81 = .ok (.aload_n 0, 1) := by decide +kernel
theorem dX10_army_82 : decode cX10_army 82 = .ok (.getfield 19, 3) := by decide +kernel
theorem dX10_army_85 : decode cX10_army 85 = .ok (.iload_n 1, 1) := by decide +kernel
theorem dX10_army_86 : decode cX10_army 86 = .ok (.iaload, 1) := by decide +kernel
theorem dX10_army_87 : decode cX10_army 87 = .ok (.goto 4, 3) := by decide +kernel
theorem dX10_army_90 : decode cX10_army 90 = .ok (.iconst 0, 1) := by decide +kernel
theorem dX10_army_91 : decode cX10_army 91 = .ok (.iastore, 1) := by decide +kernel
theorem dX10_army_92 : decode cX10_army 92 = .ok (.aload_n 0, 1) := by decide +kernel
theorem dX10_army_93 : decode cX10_army 93 = .ok (.getfield 25, 3) := by decide +kernel
theorem dX10_army_96 : decode cX10_army 96 = .ok (.iload_n 1, 1) := by decide +kernel
theorem dX10_army_97 : decode cX10_army 97 = .ok (.bipush (-9), 2) := by decide +kernel
theorem dX10_army_99 : decode cX10_army 99 = .ok (.iastore, 1) := by decide +kernel
theorem dX10_army_100 : decode cX10_army 100 = .ok (.aload_n 0, 1) := by decide +kernel
theorem dX10_army_101 : decode cX10_army 101 = .ok (.getfield 25, 3) := by decide +kernel
theorem dX10_army_104 : decode cX10_army 104 = .ok (.bipush 7, 2) := by decide +kernel
theorem dX10_army_106 : decode cX10_army 106 = .ok (.iload_n 1, 1) := by decide +kernel
theorem dX10_army_107 : decode cX10_army 107 = .ok (.iadd, 1) := by decide +kernel
theorem dX10_army_108 : decode cX10_army 108 = .ok (.bipush (-9), 2) := by decide +kernel
theorem dX10_army_110 : decode cX10_army 110 = .ok (.iastore, 1) := by decide +kernel
theorem dX10_army_111 : decode cX10_army 111 = .ok (.aload_n 0, 1) := by decide +kernel
theorem dX10_army_112 : decode cX10_army 112 = .ok (.getfield 25, 3) := by decide +kernel
theorem dX10_army_115 : decode cX10_army 115 = .ok (.bipush 14, 2) := by decide +kernel
theorem dX10_army_117 : decode cX10_army 117 = .ok (.iload_n 1, 1) := by decide +kernel
theorem dX10_army_118 : decode cX10_army 118 = .ok (.iadd, 1) := by decide +kernel
theorem dX10_army_119 : decode cX10_army 119 = .ok (.iconst 0, 1) := by decide +kernel
theorem dX10_army_120 : decode cX10_army 120 = .ok (.iastore, 1) := by decide +kernel
theorem dX10_army_121 : decode cX10_army 121 = .ok (.aload_n 0, 1) := by decide +kernel
theorem dX10_army_122 : decode cX10_army 122 = .ok (.getfield 25, 3) := by decide +kernel
theorem dX10_army_125 : decode cX10_army 125 = .ok (.bipush 21, 2) := by decide +kernel
theorem dX10_army_127 : decode cX10_army 127 = .ok (.iload_n 1, 1) := by decide +kernel
theorem dX10_army_128 : decode cX10_army 128 = .ok (.iadd, 1) := by decide +kernel
theorem dX10_army_129 : decode cX10_army 129 = .ok (.iconst 0, 1) := by decide +kernel
theorem dX10_army_130 : decode cX10_army 130 = .ok (.iastore, 1) := by decide +kernel
theorem dX10_army_131 : decode cX10_army 131 = .ok (.aload_n 0, 1) := by decide +kernel
theorem dX10_army_132 : decode cX10_army 132 = .ok (.getfield 25, 3) := by decide +kernel
theorem dX10_army_135 : decode cX10_army 135 = .ok (.bipush 28, 2) := by decide +kernel
theorem dX10_army_137 : decode cX10_army 137 = .ok (.iload_n 1, 1) := by decide +kernel
theorem dX10_army_138 : decode cX10_army 138 = .ok (.iadd, 1) := by decide +kernel
theorem dX10_army_139 : decode cX10_army 139 = .ok (.iconst 0, 1) := by decide +kernel
theorem dX10_army_140 : decode cX10_army 140 = .ok (.iastore, 1) := by decide +kernel
theorem dX10_army_141 : decode cX10_army 141 = .ok (.aload_n 0, 1) := by decide +kernel
theorem dX10_army_142 : decode cX10_army 142 = .ok (.getfield 25, 3) := by decide +kernel
theorem dX10_army_145 : decode cX10_army 145 = .ok (.bipush 35, 2) := by decide +kernel
theorem dX10_army_147 : decode cX10_army 147 = .ok (.iload_n 1, 1) := by decide +kernel
theorem dX10_army_148 : decode cX10_army 148 = .ok (.iadd, 1) := by decide +kernel
theorem dX10_army_149 : decode cX10_army 149 = .ok (.bipush (-9), 2) := by decide +kernel
theorem dX10_army_151 : decode cX10_army 151 = .ok (.iastore, 1) := by decide +kernel
theorem dX10_army_152 : decode cX10_army 152 = .ok (.aload_n 0, 1) := by decide +kernel
theorem dX10_army_153 : decode cX10_army 153 = .ok (.getfield 25, 3) := by decide +kernel
theorem dX10_army_156 : decode cX10_army 156 = .ok (.bipush 42, 2) := by decide +kernel
theorem dX10_army_158 : decode cX10_army 158 = .ok (.iload_n 1, 1) := by decide +kernel
theorem dX10_army_159 : decode cX10_army 159 = .ok (.iadd, 1) := by decide +kernel
theorem dX10_army_160 : decode cX10_army 160 = .ok (.iload_n 1, 1) := by decide +kernel
theorem dX10_army_161 : decode cX10_army 161 = .ok (.aload_n 0, 1) := by decide +kernel
theorem dX10_army_162 : decode cX10_army 162 = .ok (.getfield 76, 3) := by decide +kernel
theorem dX10_army_165 : decode cX10_army 165 = .ok (.if_icmp .ge 17, 3) := by decide +kernel
theorem dX10_army_168 : decode cX10_army 168 = .ok (.aload_n 0, 1) := by decide +kernel
theorem dX10_army_169 : decode cX10_army 169 = .ok (.getfield 13, 3) := by decide +kernel
theorem dX10_army_172 : decode cX10_army 172 = .ok (.iload_n 1, 1) := by decide +kernel
theorem dX10_army_173 : decode cX10_army 173 = .ok (.iaload, 1) := by decide +kernel
theorem dX10_army_174 : decode cX10_army 174 = .ok (.iconst 3, 1) := by decide +kernel
theorem dX10_army_175 : decode cX10_army 175 = .ok (.if_icmp .ne 7, 3) := by decide +kernel
theorem dX10_army_178 : decode cX10_army 178 = .ok (.iconst 1, 1) := by decide +kernel
theorem dX10_army_179 : decode cX10_army 179 = .ok (.goto 4, 3) := by decide +kernel
theorem dX10_army_182 : decode cX10_army 182 = .ok (.iconst 0, 1) := by decide +kernel
theorem dX10_army_183 : decode cX10_army 183 = .ok (.iastore, 1) := by decide +kernel
theorem dX10_army_184 : decode cX10_army 184 = .ok (.iinc 1 1, 3) := by decide +kernel
theorem dX10_army_187 : decode cX10_army 187 = .ok (.goto (-125), 3) := by decide +kernel
theorem dX10_army_190 : decode cX10_army 190 = .ok (.aload_n 0, 1) := by decide +kernel
theorem dX10_army_191 : decode cX10_army 191 = .ok (.getfield 25, 3) := by decide +kernel
theorem dX10_army_194 : decode cX10_army 194 = .ok (.bipush 49, 2) := by decide +kernel
theorem dX10_army_196 : decode cX10_army 196 = .ok (.iconst 0, 1) := by decide +kernel
theorem dX10_army_197 : decode cX10_army 197 = .ok (.iastore, 1) := by decide +kernel
theorem dX10_army_198 : decode cX10_army 198 = .ok (.aload_n 0, 1) := by decide +kernel
theorem dX10_army_199 : decode cX10_army 199 = .ok (.iconst 0, 1) := by decide +kernel
theorem dX10_army_200 : decode cX10_army 200 = .ok (.putfield 133, 3) := by decide +kernel
theorem dX10_army_203 : decode cX10_army 203 = .ok (.aload_n 0, 1) := by decide +kernel
theorem dX10_army_204 : decode cX10_army 204 = .ok (.getfield 41, 3) := by decide +kernel
theorem dX10_army_207 : decode cX10_army 207 = .ok (.iconst 0, 1) := by decide +kernel
theorem dX10_army_208 : decode cX10_army 208 = .ok (.iconst 0, 1) := by decide +kernel
theorem dX10_army_209 : decode cX10_army 209 = .ok (.bastore, 1) := by decide +kernel
theorem dX10_army_210 : decode cX10_army 210 = .ok (.aload_n 0, 1) := by decide +kernel
theorem dX10_army_211 : decode cX10_army 211 = .ok (.getfield 41, 3) := by decide +kernel
theorem dX10_army_214 : decode cX10_army 214 = .ok (.iconst 1, 1) := by decide +kernel
theorem dX10_army_215 : decode cX10_army 215 = .ok (.iconst 0, 1) := by decide +kernel
theorem dX10_army_216 : decode cX10_army 216 = .ok (.bastore, 1) := by decide +kernel
theorem dX10_army_217 : decode cX10_army 217 = .ok (.aload_n 0, 1) := by decide +kernel
theorem dX10_army_218 : decode cX10_army 218 = .ok (.getfield 76, 3) := by decide +kernel
theorem dX10_army_221 : decode cX10_army 221 = .ok (.ireturn, 1) := by decide +kernel
theorem dX10_about_0 : decode cX10_about 0 = .ok (.aload_n 0, 1) := by decide +kernel
theorem dX10_about_1 : decode cX10_about 1 = .ok (.iconst 0, 1) := by decide +kernel
theorem dX10_about_2 : decode cX10_about 2 = .ok (.putfield 72, 3) := by decide +kernel
theorem dX10_about_5 : decode cX10_about 5 = .ok (.iconst 0, 1) := by decide +kernel
theorem dX10_about_6 : decode cX10_about 6 = .ok (.istore_n 2, 1) := by decide +kernel
theorem dX10_about_7 : decode cX10_about 7 = .ok (.iconst 0, 1) := by decide +kernel
theorem dX10_about_8 : decode cX10_about 8 = .ok (.istore_n 3, 1) := by decide +kernel
theorem dX10_about_9 : decode cX10_about 9 = .ok (.iconst 0, 1) := by decide +kernel
theorem dX10_about_10 : decode cX10_about 10 = .ok (.istore 4, 2) := by decide +kernel
theorem dX10_about_12 : decode cX10_about 12 = .ok (.iload 4, 2) := by decide +kernel
theorem dX10_about_14 : decode cX10_about 14 = .ok (.aload_n 0, 1) := by decide +kernel
theorem dX10_about_15 : decode cX10_about 15 = .ok (.getfield 76, 3) := by decide +kernel
theorem dX10_about_18 : decode cX10_about 18 = .ok (.if_icmp .ge 51, 3) := by decide +kernel
theorem dX10_about_21 : decode cX10_about 21 = .ok (.iload_n 2, 1) := by decide +kernel
theorem dX10_about_22 : decode cX10_about 22 = .ok (.aload_n 0, 1) := by decide +kernel
theorem dX10_about_23 : decode cX10_about 23 = .ok (.getfield 25, 3) := by decide +kernel
theorem dX10_about_26 : decode cX10_about 26 = .ok (.bipush 42, 2) := by decide +kernel
theorem dX10_about_28 : decode cX10_about 28 = .ok (.iload 4, 2) := by decide +kernel
theorem dX10_about_30 : decode cX10_about 30 = .ok (.iadd, 1) := by decide +kernel
theorem dX10_about_31 : decode cX10_about 31 = .ok (.iaload, 1) := by decide +kernel
theorem dX10_about_32 : decode cX10_about 32 = .ok (.iload 4, 2) := by decide +kernel
theorem dX10_about_34 : decode cX10_about 34 = .ok (.ishl, 1) := by decide +kernel
theorem dX10_about_35 : decode cX10_about 35 = .ok (.ior, 1) := by decide +kernel
theorem dX10_about_36 : decode cX10_about 36 = .ok (.istore_n 2, 1) := by decide +kernel
theorem dX10_about_37 : decode cX10_about 37 = .ok (.iload_n 3, 1) := by decide +kernel
theorem dX10_about_38 : decode cX10_about 38 = .ok (.aload_n 0, 1) := by decide +kernel
theorem dX10_about_39 : decode cX10_about 39 = .ok (.getfield 25, 3) := by decide +kernel
theorem dX10_about_42 : decode cX10_about 42 = .ok (.bipush 35, 2) := by decide +kernel
theorem dX10_about_44 : decode cX10_about 44 = .ok (.iload 4, 2) := by decide +kernel
theorem dX10_about_46 : decode cX10_about 46 = .ok (.iadd, 1) := by decide +kernel
theorem dX10_about_47 : decode cX10_about 47 = .ok (.iaload, 1) := by decide +kernel
theorem dX10_about_48 : decode cX10_about 48 = .ok (.bipush (-9), 2) := by decide +kernel
theorem dX10_about_50 : decode cX10_about 50 = .ok (.if_icmp .ne 7, 3) := by decide +kernel
theorem dX10_about_53 : decode cX10_about 53 = .ok (.iconst 0, 1) := by decide +kernel
theorem dX10_about_54 : decode cX10_about 54 = .ok (.goto 7, 3) := by decide +kernel
theorem dX10_about_57 : decode cX10_about 57 = .ok (.iconst 1, 1) := by decide +kernel
theorem dX10_about_58 : decode cX10_about 58 = .ok (.iload 4, 2) := by decide +kernel
theorem dX10_about_60 : decode cX10_about 60 = .ok (.ishl, 1) := by decide +kernel
theorem dX10_about_61 : decode cX10_about 61 = .ok (.ior, 1) := by decide +kernel
theorem dX10_about_62 : decode cX10_about 62 = .ok (.istore_n 3, 1) := by decide +kernel
theorem dX10_about_63 : decode cX10_about 63 = .ok (.iinc 4 1, 3) := by decide +kernel
theorem dX10_about_66 : decode cX10_about 66 = .ok (.goto (-54), 3) := by decide +kernel
theorem dX10_about_69 : decode cX10_about 69 = .ok (.iload_n 1, 1) := by decide +kernel
theorem dX10_about_70 : decode cX10_about 70 = .ok (.tableswitch 83 0 7 #[46, 51, 56, 64, 66, 68, 73, 78], 46) := by decide +kernel
theorem dX10_about_116 : decode cX10_about 116 = .ok (.aload_n 0, 1) := by decide +kernel
theorem dX10_about_117 : decode cX10_about 117 = .ok (.getfield 76, 3) := by decide +kernel
theorem dX10_about_120 : decode cX10_about 120 = .ok (.ireturn, 1) := by decide +kernel
theorem dX10_about_121 : decode cX10_about 121 = .ok (.aload_n 0, 1) := by decide +kernel
theorem dX10_about_122 : decode cX10_about 122 = .ok (.getfield 130, 3) := by decide +kernel
theorem dX10_about_125 : decode cX10_about 125 = .ok (.ireturn, 1) := by decide +kernel
theorem dX10_about_126 : decode cX10_about 126 = .ok (.aload_n 0, 1) := by decide +kernel
theorem dX10_about_127 : decode cX10_about 127 = .ok (.getfield 25, 3) := by decide +kernel
theorem dX10_about_130 : decode cX10_about 130 = .ok (.bipush 49, 2) := by decide +kernel
theorem dX10_about_132 : decode cX10_about 132 = .ok (.iaload, 1) := by decide +kernel
theorem dX10_about_133 : decode cX10_about 133 = .ok (.ireturn, 1) := by decide +kernel
theorem dX10_about_134 : decode cX10_about 134 = .ok (.iload_n 2, 1) := by decide +kernel
theorem dX10_about_135 : decode cX10_about 135 = .ok (.ireturn, 1) := by decide +kernel
theorem dX10_about_136 : decode cX10_about 136 = .ok (.iload_n 3, 1) := by decide +kernel
theorem dX10_about_137 : decode cX10_about 137 = .ok (.ireturn, 1) := by decide +kernel
theorem dX10_about_138 : decode cX10_about 138 = .ok (.aload_n 0, 1) := by decide +kernel
theorem dX10_about_139 : decode cX10_about 139 = .ok (.getfield 133, 3) := by decide +kernel
theorem dX10_about_142 : decode cX10_about 142 = .ok (.ireturn, 1) := by decide +kernel
theorem dX10_about_143 : decode cX10_about 143 = .ok (.aload_n 0, 1) := by decide +kernel
theorem dX10_about_144 : decode cX10_about 144 = .ok (.getfield 136, 3) := by decide +kernel
theorem dX10_about_147 : decode cX10_about 147 = .ok (.ireturn, 1) := by decide +kernel
theorem dX10_about_148 : decode cX10_about 148 = .ok (.aload_n 0, 1) := by decide +kernel
theorem dX10_about_149 : decode cX10_about 149 = .ok (.getfield 87, 3) := by decide +kernel
theorem dX10_about_152 : decode cX10_about 152 = .ok (.ireturn, 1) := by decide +kernel
theorem dX10_about_153 : decode cX10_about 153 = .ok (.bipush (-2), 2) := by decide +kernel
theorem dX10_about_155 : decode cX10_about 155 = .ok (.ireturn, 1) := by decide +kernel
set_option maxRecDepth 20000 in
theorem ggX10_rank_X10_noRank : GoodIn wsX10_rank wsX10_noRank := goodIn_r _ [8, 9, 10, 11, 7, 12, 13, 14, 15, 16, 17, 18, 19, 20, 21, 22, 23, 24, 25, 26, 27, 28, 29, 30, 31, 32, 33, 34, 35, 36, 37, 38, 39, 40, 41, 42, 43] (by decide +kernel) (by decide +kernel)
set_option maxRecDepth 20000 in
theorem gX10_rank_X10_noRank : GoodIn wsX10_rank (wsV RX10 139 RX10 yX10_noRank wsX10_noRank) := goodIn_app (goodIn_of _ (by decide +kernel)) ggX10_rank_X10_noRank
theorem dX10_rank_0 : decode cX10_rank 0 = .ok (.aload_n 0, 1) := by decide +kernel
theorem dX10_rank_1 : decode cX10_rank 1 = .ok (.iconst 0, 1) := by decide +kernel
theorem dX10_rank_2 : decode cX10_rank 2 = .ok (.putfield 72, 3) := by decide +kernel
theorem dX10_rank_5 : decode cX10_rank 5 = .ok (.aload_n 0, 1) := by decide +kernel
theorem dX10_rank_6 : decode cX10_rank 6 = .ok (.iload_n 1, 1) := by decide +kernel
theorem dX10_rank_7 : decode cX10_rank 7 = .ok (.invokevirtual 139, 3) := by decide +kernel
theorem dX10_rank_10 : decode cX10_rank 10 = .ok (.ifCond .eq 5, 3) := by decide +kernel
theorem dX10_rank_13 : decode cX10_rank 13 = .ok (.iconst (-1), 1) := by decide +kernel
theorem dX10_rank_14 : decode cX10_rank 14 = .ok (.ireturn, 1) := by decide +kernel
theorem dX10_rank_15 : decode cX10_rank 15 = .ok (.iload_n 2, 1) := by decide +kernel
theorem dX10_rank_16 : decode cX10_rank 16 = .ok (.tableswitch 112 0 6 #[44, 51, 58, 68, 78, 92, 102], 44) := by decide +kernel
theorem dX10_rank_60 : decode cX10_rank 60 = .ok (.aload_n 0, 1) := by decide +kernel
theorem dX10_rank_61 : decode cX10_rank 61 = .ok (.getfield 13, 3) := by decide +kernel
theorem dX10_rank_64 : decode cX10_rank 64 = .ok (.iload_n 1, 1) := by decide +kernel
theorem dX10_rank_65 : decode cX10_rank 65 = .ok (.iaload, 1) := by decide +kernel
theorem dX10_rank_66 : decode cX10_rank 66 = .ok (.ireturn, 1) := by decide +kernel
theorem dX10_rank_67 : decode cX10_rank 67 = .ok (.aload_n 0, 1) := by decide +kernel
theorem dX10_rank_68 : decode cX10_rank 68 = .ok (.getfield 25, 3) := by decide +kernel
theorem dX10_rank_71 : decode cX10_rank 71 = .ok (.iload_n 1, 1) := by decide +kernel
theorem dX10_rank_72 : decode cX10_rank 72 = .ok (.iaload, 1) := by decide +kernel
theorem dX10_rank_73 : decode cX10_rank 73 = .ok (.ireturn, 1) := by decide +kernel
theorem dX10_rank_74 : decode cX10_rank 74 = .ok (.aload_n 0, 1) := by decide +kernel
theorem dX10_rank_75 : decode cX10_rank 75 = .ok (.getfield 25, 3) := by decide +kernel
theorem dX10_rank_78 : decode cX10_rank 78 = .ok (.bipush 7, 2) := by decide +kernel
theorem dX10_rank_80 : decode cX10_rank 80 = .ok (.iload_n 1, 1) := by decide +kernel
theorem dX10_rank_81 : decode cX10_rank 81 = .ok (.iadd, 1) := by decide +kernel
theorem dX10_rank_82 : decode cX10_rank 82 = .ok (.iaload, 1) := by decide +kernel
theorem dX10_rank_83 : decode cX10_rank 83 = .ok (.ireturn, 1) := by decide +kernel
theorem dX10_rank_84 : decode cX10_rank 84 = .ok (.aload_n 0, 1) := by decide +kernel
theorem dX10_rank_85 : decode cX10_rank 85 = .ok (.getfield 25, 3) := by decide +kernel
theorem dX10_rank_88 : decode cX10_rank 88 = .ok (.bipush 14, 2) := by decide +kernel
theorem dX10_rank_90 : decode cX10_rank 90 = .ok (.iload_n 1, 1) := by decide +kernel
theorem dX10_rank_91 : decode cX10_rank 91 = .ok (.iadd, 1) := by decide +kernel
theorem dX10_rank_92 : decode cX10_rank 92 = .ok (.iaload, 1) := by decide +kernel
theorem dX10_rank_93 : decode cX10_rank 93 = .ok (.ireturn, 1) := by decide +kernel
theorem dX10_rank_94 : decode cX10_rank 94 = .ok (.sipush 1000, 3) := by decide +kernel
theorem dX10_rank_97 : decode cX10_rank 97 = .ok (.aload_n 0, 1) := by decide +kernel
theorem dX10_rank_98 : decode cX10_rank 98 = .ok (.getfield 25, 3) := by decide +kernel
theorem dX10_rank_101 : decode cX10_rank 101 = .ok (.bipush 21, 2) := by decide +kernel
theorem dX10_rank_103 : decode cX10_rank 103 = .ok (.iload_n 1, 1) := by decide +kernel
theorem dX10_rank_104 : decode cX10_rank 104 = .ok (.iadd, 1) := by decide +kernel
theorem dX10_rank_105 : decode cX10_rank 105 = .ok (.iaload, 1) := by decide +kernel
theorem dX10_rank_106 : decode cX10_rank 106 = .ok (.iadd, 1) := by decide +kernel
theorem dX10_rank_107 : decode cX10_rank 107 = .ok (.ireturn, 1) := by decide +kernel
theorem dX10_rank_108 : decode cX10_rank 108 = .ok (.aload_n 0, 1) := by decide +kernel
theorem dX10_rank_109 : decode cX10_rank 109 = .ok (.getfield 25, 3) := by decide +kernel
theorem dX10_rank_112 : decode cX10_rank 112 = .ok (.bipush 28, 2) := by decide +kernel
theorem dX10_rank_114 : decode cX10_rank 114 = .ok (.iload_n 1, 1) := by decide +kernel
theorem dX10_rank_115 : decode cX10_rank 115 = .ok (.iadd, 1) := by decide +kernel
theorem dX10_rank_116 : decode cX10_rank 116 = .ok (.iaload, 1) := by decide +kernel
theorem dX10_rank_117 : decode cX10_rank 117 = .ok (.ireturn, 1) := by decide +kernel
theorem dX10_rank_118 : decode cX10_rank 118 = .ok (.aload_n 0, 1) := by decide +kernel
theorem dX10_rank_119 : decode cX10_rank 119 = .ok (.getfield 25, 3) := by decide +kernel
theorem dX10_rank_122 : decode cX10_rank 122 = .ok (.bipush 35, 2) := by decide +kernel
theorem dX10_rank_124 : decode cX10_rank 124 = .ok (.iload_n 1, 1) := by decide +kernel
theorem dX10_rank_125 : decode cX10_rank 125 = .ok (.iadd, 1) := by decide +kernel
theorem dX10_rank_126 : decode cX10_rank 126 = .ok (.iaload, 1) := by decide +kernel
theorem dX10_rank_127 : decode cX10_rank 127 = .ok (.ireturn, 1) := by decide +kernel
theorem dX10_rank_128 : decode cX10_rank 128 = .ok (.bipush (-2), 2) := by decide +kernel
theorem dX10_rank_130 : decode cX10_rank 130 = .ok (.ireturn, 1) := by decide +kernel
theorem dX10_tenthsOf_0 : decode cX10_tenthsOf 0 = .ok (.iload_n 2, 1) := by decide +kernel
theorem dX10_tenthsOf_1 : decode cX10_tenthsOf 1 = .ok (.iload_n 3, 1) := by decide +kernel
theorem dX10_tenthsOf_2 : decode cX10_tenthsOf 2 = .ok (.if_icmp .eq 19, 3) := by decide +kernel
theorem dX10_tenthsOf_5 : decode cX10_tenthsOf 5 = .ok (.aload_n 0, 1) := by decide +kernel
theorem dX10_tenthsOf_6 : decode cX10_tenthsOf 6 = .ok (.getfield 16, 3) := by decide +kernel
theorem dX10_tenthsOf_9 : decode cX10_tenthsOf 9 = .ok (.bipush 25, 2) := by decide +kernel
theorem dX10_tenthsOf_11 : decode cX10_tenthsOf 11 = .ok (.iload_n 1, 1) := by decide +kernel
theorem dX10_tenthsOf_12 : decode cX10_tenthsOf 12 = .ok (.imul, 1) := by decide +kernel
theorem dX10_tenthsOf_13 : decode cX10_tenthsOf 13 = .ok (.iconst 5, 1) := by decide +kernel
theorem dX10_tenthsOf_14 : decode cX10_tenthsOf 14 = .ok (.iload_n 2, 1) := by decide +kernel
theorem dX10_tenthsOf_15 : decode cX10_tenthsOf 15 = .ok (.imul, 1) := by decide +kernel
theorem dX10_tenthsOf_16 : decode cX10_tenthsOf 16 = .ok (.iadd, 1) := by decide +kernel
theorem dX10_tenthsOf_17 : decode cX10_tenthsOf 17 = .ok (.iload_n 3, 1) := by decide +kernel
theorem dX10_tenthsOf_18 : decode cX10_tenthsOf 18 = .ok (.iadd, 1) := by decide +kernel
theorem dX10_tenthsOf_19 : decode cX10_tenthsOf 19 = .ok (.iaload, 1) := by decide +kernel
theorem dX10_tenthsOf_20 : decode cX10_tenthsOf 20 = .ok (.ireturn, 1) := by decide +kernel
theorem dX10_tenthsOf_21 : decode cX10_tenthsOf 21 = .ok (.bipush 10, 2) := by decide +kernel
theorem dX10_tenthsOf_23 : decode cX10_tenthsOf 23 = .ok (.istore 4, 2) := by decide +kernel
theorem dX10_tenthsOf_25 : decode cX10_tenthsOf 25 = .ok (.iconst 0, 1) := by decide +kernel
theorem dX10_tenthsOf_26 : decode cX10_tenthsOf 26 = .ok (.istore 5, 2) := by decide +kernel
theorem dX10_tenthsOf_28 : decode cX10_tenthsOf 28 = .ok (.iload 5, 2) := by decide +kernel
theorem dX10_tenthsOf_30 : decode cX10_tenthsOf 30 = .ok (.iconst 5, 1) := by decide +kernel
theorem dX10_tenthsOf_31 : decode cX10_tenthsOf 31 = .ok (.if_icmp .ge 30, 3) := by decide +kernel
theorem dX10_tenthsOf_34 : decode cX10_tenthsOf 34 = .ok (.iload 4, 2) := by decide +kernel
theorem dX10_tenthsOf_36 : decode cX10_tenthsOf 36 = .ok (.aload_n 0, 1) := by decide +kernel
theorem dX10_tenthsOf_37 : decode cX10_tenthsOf 37 = .ok (.getfield 16, 3) := by decide +kernel
theorem dX10_tenthsOf_40 : decode cX10_tenthsOf 40 = .ok (.bipush 25, 2) := by decide +kernel
theorem dX10_tenthsOf_42 : decode cX10_tenthsOf 42 = .ok (.iload_n 1, 1) := by decide +kernel
theorem dX10_tenthsOf_43 : decode cX10_tenthsOf 43 = .ok (.imul, 1) := by decide +kernel
theorem dX10_tenthsOf_44 : decode cX10_tenthsOf 44 = .ok (.iconst 5, 1) := by decide +kernel
theorem dX10_tenthsOf_45 : decode cX10_tenthsOf 45 = .ok (.iload_n 2, 1) := by decide +kernel
theorem dX10_tenthsOf_46 : decode cX10_tenthsOf 46 = .ok (.imul, 1) := by decide +kernel
theorem dX10_tenthsOf_47 : decode cX10_tenthsOf 47 = .ok (.iadd, 1) := by decide +kernel
theorem dX10_tenthsOf_48 : decode cX10_tenthsOf 48 = .ok (.iload 5, 2) := by decide +kernel
theorem dX10_tenthsOf_50 : decode cX10_tenthsOf 50 = .ok (.iadd, 1) := by decide +kernel
theorem dX10_tenthsOf_51 : decode cX10_tenthsOf 51 = .ok (.iaload, 1) := by decide +kernel
theorem dX10_tenthsOf_52 : decode cX10_tenthsOf 52 = .ok (.isub, 1) := by decide +kernel
theorem dX10_tenthsOf_53 : decode cX10_tenthsOf 53 = .ok (.istore 4, 2) := by decide +kernel
theorem dX10_tenthsOf_55 : decode cX10_tenthsOf 55 = .ok (.iinc 5 1, 3) := by decide +kernel
theorem dX10_tenthsOf_58 : decode cX10_tenthsOf 58 = .ok (.goto (-30), 3) := by decide +kernel
theorem dX10_tenthsOf_61 : decode cX10_tenthsOf 61 = .ok (.iload 4, 2) := by decide +kernel
theorem dX10_tenthsOf_63 : decode cX10_tenthsOf 63 = .ok (.ireturn, 1) := by decide +kernel
set_option maxRecDepth 20000 in
theorem ggX10_slip_X10_noRank : GoodIn wsX10_slip wsX10_noRank := goodIn_r _ [6, 7, 8, 9, 5, 10, 20, 21, 22, 23, 24, 25, 26, 27, 28, 29, 30, 31, 32, 33, 34, 35, 36, 37, 38, 39, 40, 41, 42, 43, 44, 45, 46, 47, 48, 49, 50] (by decide +kernel) (by decide +kernel)
set_option maxRecDepth 20000 in
theorem gX10_slip_X10_noRank : GoodIn wsX10_slip (wsV RX10 139 RX10 yX10_noRank wsX10_noRank) := goodIn_app (goodIn_of _ (by decide +kernel)) ggX10_slip_X10_noRank
set_option maxRecDepth 20000 in
theorem ggX10_slip_X10_noOrder : GoodIn wsX10_slip wsX10_noOrder := goodIn_r _ [13, 14, 8, 9, 5, 10] (by decide +kernel) (by decide +kernel)
set_option maxRecDepth 20000 in
theorem gX10_slip_X10_noOrder : GoodIn wsX10_slip (va_wsS RX10 104 yX10_noOrder wsX10_noOrder) := goodIn_app (goodIn_of _ (by decide +kernel)) ggX10_slip_X10_noOrder
set_option maxRecDepth 20000 in
theorem ggX10_slip_X10_tenthsOf : GoodIn wsX10_slip wsX10_tenthsOf := goodIn_r _ [18, 19, 20, 21, 22, 23, 24, 25, 26, 27, 28, 29, 30, 31, 32, 33, 34, 35, 36, 37, 38, 39, 40, 41, 42, 43, 44, 45, 46, 47, 48, 49, 50] (by decide +kernel) (by decide +kernel)
set_option maxRecDepth 20000 in
theorem gX10_slip_X10_tenthsOf : GoodIn wsX10_slip (wsV RX10 142 RX10 yX10_tenthsOf wsX10_tenthsOf) := goodIn_app (goodIn_of _ (by decide +kernel)) ggX10_slip_X10_tenthsOf
theorem dX10_slip_0 : decode cX10_slip 0 = .ok (.aload_n 0, 1) := by decide +kernel
theorem dX10_slip_1 : decode cX10_slip 1 = .ok (.iconst 0, 1) := by decide +kernel
theorem dX10_slip_2 : decode cX10_slip 2 = .ok (.putfield 72, 3) := by decide +kernel
theorem dX10_slip_5 : decode cX10_slip 5 = .ok (.aload_n 0, 1) := by decide +kernel
theorem dX10_slip_6 : decode cX10_slip 6 = .ok (.iload_n 1, 1) := by decide +kernel
theorem dX10_slip_7 : decode cX10_slip 7 = .ok (.invokevirtual 139, 3) := by decide +kernel
theorem dX10_slip_10 : decode cX10_slip 10 = .ok (.ifCond .ne 17, 3) := by decide +kernel
theorem dX10_slip_13 : decode cX10_slip 13 = .ok (.iload_n 2, 1) := by decide +kernel
theorem dX10_slip_14 : decode cX10_slip 14 = .ok (.invokestatic 104, 3) := by decide +kernel
theorem dX10_slip_17 : decode cX10_slip 17 = .ok (.ifCond .ne 10, 3) := by decide +kernel
theorem dX10_slip_20 : decode cX10_slip 20 = .ok (.iload_n 3, 1) := by decide +kernel
theorem dX10_slip_21 : decode cX10_slip 21 = .ok (.invokestatic 104, 3) := by decide +kernel
theorem dX10_slip_24 : decode cX10_slip 24 = .ok (.ifCond .eq 7, 3) := by decide +kernel
theorem dX10_slip_27 : decode cX10_slip 27 = .ok (.iconst (-1), 1) := by decide +kernel
theorem dX10_slip_28 : decode cX10_slip 28 = .ok (.goto 10, 3) := by decide +kernel
theorem dX10_slip_31 : decode cX10_slip 31 = .ok (.aload_n 0, 1) := by decide +kernel
theorem dX10_slip_32 : decode cX10_slip 32 = .ok (.iload_n 1, 1) := by decide +kernel
theorem dX10_slip_33 : decode cX10_slip 33 = .ok (.iload_n 2, 1) := by decide +kernel
theorem dX10_slip_34 : decode cX10_slip 34 = .ok (.iload_n 3, 1) := by decide +kernel
theorem dX10_slip_35 : decode cX10_slip 35 = .ok (.invokevirtual 142, 3) := by decide +kernel
theorem dX10_slip_38 : decode cX10_slip 38 = .ok (.ireturn, 1) := by decide +kernel
theorem dX10_seed_0 : decode cX10_seed 0 = .ok (.aload_n 0, 1) := by decide +kernel
theorem dX10_seed_1 : decode cX10_seed 1 = .ok (.iconst 0, 1) := by decide +kernel
theorem dX10_seed_2 : decode cX10_seed 2 = .ok (.putfield 72, 3) := by decide +kernel
theorem dX10_seed_5 : decode cX10_seed 5 = .ok (.aload_n 0, 1) := by decide +kernel
theorem dX10_seed_6 : decode cX10_seed 6 = .ok (.getfield 146, 3) := by decide +kernel
theorem dX10_seed_9 : decode cX10_seed 9 = .ok (.lstore_n 3, 1) := by decide +kernel
theorem dX10_seed_10 : decode cX10_seed 10 = .ok (.aload_n 0, 1) := by decide +kernel
theorem dX10_seed_11 : decode cX10_seed 11 = .ok (.lload_n 1, 1) := by decide +kernel
theorem dX10_seed_12 : decode cX10_seed 12 = .ok (.putfield 146, 3) := by decide +kernel
theorem dX10_seed_15 : decode cX10_seed 15 = .ok (.lload_n 3, 1) := by decide +kernel
theorem dX10_seed_16 : decode cX10_seed 16 = .ok (.lreturn, 1) := by decide +kernel
theorem dX10_turned_0 : decode cX10_turned 0 = .ok (.aload_n 0, 1) := by decide +kernel
theorem dX10_turned_1 : decode cX10_turned 1 = .ok (.getfield 13, 3) := by decide +kernel
theorem dX10_turned_4 : decode cX10_turned 4 = .ok (.iload_n 1, 1) := by decide +kernel
theorem dX10_turned_5 : decode cX10_turned 5 = .ok (.iaload, 1) := by decide +kernel
theorem dX10_turned_6 : decode cX10_turned 6 = .ok (.iconst 2, 1) := by decide +kernel
theorem dX10_turned_7 : decode cX10_turned 7 = .ok (.if_icmp .ne 12, 3) := by decide +kernel
theorem dX10_turned_10 : decode cX10_turned 10 = .ok (.iload_n 2, 1) := by decide +kernel
theorem dX10_turned_11 : decode cX10_turned 11 = .ok (.iconst 2, 1) := by decide +kernel
theorem dX10_turned_12 : decode cX10_turned 12 = .ok (.if_icmp .ne 7, 3) := by decide +kernel
theorem dX10_turned_15 : decode cX10_turned 15 = .ok (.iconst 3, 1) := by decide +kernel
theorem dX10_turned_16 : decode cX10_turned 16 = .ok (.goto 23, 3) := by decide +kernel
theorem dX10_turned_19 : decode cX10_turned 19 = .ok (.aload_n 0, 1) := by decide +kernel
theorem dX10_turned_20 : decode cX10_turned 20 = .ok (.getfield 13, 3) := by decide +kernel
theorem dX10_turned_23 : decode cX10_turned 23 = .ok (.iload_n 1, 1) := by decide +kernel
theorem dX10_turned_24 : decode cX10_turned 24 = .ok (.iaload, 1) := by decide +kernel
theorem dX10_turned_25 : decode cX10_turned 25 = .ok (.iconst 2, 1) := by decide +kernel
theorem dX10_turned_26 : decode cX10_turned 26 = .ok (.if_icmp .ne 12, 3) := by decide +kernel
theorem dX10_turned_29 : decode cX10_turned 29 = .ok (.iload_n 2, 1) := by decide +kernel
theorem dX10_turned_30 : decode cX10_turned 30 = .ok (.iconst 3, 1) := by decide +kernel
theorem dX10_turned_31 : decode cX10_turned 31 = .ok (.if_icmp .ne 7, 3) := by decide +kernel
theorem dX10_turned_34 : decode cX10_turned 34 = .ok (.iconst 2, 1) := by decide +kernel
theorem dX10_turned_35 : decode cX10_turned 35 = .ok (.goto 4, 3) := by decide +kernel
theorem dX10_turned_38 : decode cX10_turned 38 = .ok (.iload_n 2, 1) := by decide +kernel
theorem dX10_turned_39 : decode cX10_turned 39 = .ok (.ireturn, 1) := by decide +kernel
theorem dX10_hear_0 : decode cX10_hear 0 = .ok (.aload_n 1, 1) := by decide +kernel
theorem dX10_hear_1 : decode cX10_hear 1 = .ok (.bipush 7, 2) := by decide +kernel
theorem dX10_hear_3 : decode cX10_hear 3 = .ok (.iload_n 2, 1) := by decide +kernel
theorem dX10_hear_4 : decode cX10_hear 4 = .ok (.iadd, 1) := by decide +kernel
theorem dX10_hear_5 : decode cX10_hear 5 = .ok (.aload_n 1, 1) := by decide +kernel
theorem dX10_hear_6 : decode cX10_hear 6 = .ok (.iload_n 2, 1) := by decide +kernel
theorem dX10_hear_7 : decode cX10_hear 7 = .ok (.iaload, 1) := by decide +kernel
theorem dX10_hear_8 : decode cX10_hear 8 = .ok (.iastore, 1) := by decide +kernel
theorem dX10_hear_9 : decode cX10_hear 9 = .ok (.aload_n 1, 1) := by decide +kernel
theorem dX10_hear_10 : decode cX10_hear 10 = .ok (.iload_n 2, 1) := by decide +kernel
theorem dX10_hear_11 : decode cX10_hear 11 = .ok (.iload_n 3, 1) := by decide +kernel
theorem dX10_hear_12 : decode cX10_hear 12 = .ok (.iastore, 1) := by decide +kernel
theorem dX10_hear_13 : decode cX10_hear 13 = .ok (.aload_n 1, 1) := by decide +kernel
theorem dX10_hear_14 : decode cX10_hear 14 = .ok (.bipush 14, 2) := by decide +kernel
theorem dX10_hear_16 : decode cX10_hear 16 = .ok (.iload_n 2, 1) := by decide +kernel
theorem dX10_hear_17 : decode cX10_hear 17 = .ok (.iadd, 1) := by decide +kernel
theorem dX10_hear_18 : decode cX10_hear 18 = .ok (.aload_n 0, 1) := by decide +kernel
theorem dX10_hear_19 : decode cX10_hear 19 = .ok (.getfield 13, 3) := by decide +kernel
theorem dX10_hear_22 : decode cX10_hear 22 = .ok (.iload_n 2, 1) := by decide +kernel
theorem dX10_hear_23 : decode cX10_hear 23 = .ok (.iaload, 1) := by decide +kernel
theorem dX10_hear_24 : decode cX10_hear 24 = .ok (.iconst 1, 1) := by decide +kernel
theorem dX10_hear_25 : decode cX10_hear 25 = .ok (.if_icmp .ne 22, 3) := by decide +kernel
theorem dX10_hear_28 : decode cX10_hear 28 = .ok (.aload_n 1, 1) := by decide +kernel
theorem dX10_hear_29 : decode cX10_hear 29 = .ok (.bipush 7, 2) := by decide +kernel
theorem dX10_hear_31 : decode cX10_hear 31 = .ok (.iload_n 2, 1) := by decide +kernel
theorem dX10_hear_32 : decode cX10_hear 32 = .ok (.iadd, 1) := by decide +kernel
theorem dX10_hear_33 : decode cX10_hear 33 = .ok (.iaload, 1) := by decide +kernel
theorem dX10_hear_34 : decode cX10_hear 34 = .ok (.iload_n 3, 1) := by decide +kernel
theorem dX10_hear_35 : decode cX10_hear 35 = .ok (.if_icmp .eq 12, 3) := by decide +kernel
theorem dX10_hear_38 : decode cX10_hear 38 = .ok (.aload_n 1, 1) := by decide +kernel
theorem dX10_hear_39 : decode cX10_hear 39 = .ok (.bipush 14, 2) := by decide +kernel
theorem dX10_hear_41 : decode cX10_hear 41 = .ok (.iload_n 2, 1) := by decide +kernel
theorem dX10_hear_42 : decode cX10_hear 42 = .ok (.iadd, 1) := by decide +kernel
theorem dX10_hear_43 : decode cX10_hear 43 = .ok (.iaload, 1) := by decide +kernel
theorem dX10_hear_44 : decode cX10_hear 44 = .ok (.goto 4, 3) := by decide +kernel
theorem dX10_hear_47 : decode cX10_hear 47 = .ok (.iload_n 3, 1) := by decide +kernel
theorem dX10_hear_48 : decode cX10_hear 48 = .ok (.iastore, 1) := by decide +kernel
theorem dX10_hear_49 : decode cX10_hear 49 = .ok (.return_, 1) := by decide +kernel
set_option maxRecDepth 20000 in
theorem ggX10_tell_X10_turned : GoodIn wsX10_tell wsX10_turned := goodIn_r _ [5, 6, 11, 12, 13, 14, 15, 16, 17, 18, 19, 20, 21, 22, 23, 24, 25, 26, 27, 28, 29, 30, 31, 32, 33, 34, 35, 36, 37, 38, 39, 40, 41] (by decide +kernel) (by decide +kernel)
set_option maxRecDepth 20000 in
theorem gX10_tell_X10_turned : GoodIn wsX10_tell (wsV RX10 150 RX10 yX10_turned wsX10_turned) := goodIn_app (goodIn_of _ (by decide +kernel)) ggX10_tell_X10_turned
set_option maxRecDepth 20000 in
theorem ggX10_tell_X10_hear : GoodIn wsX10_tell wsX10_hear := goodIn_r _ [10, 6, 11, 12, 13, 14, 15, 16, 17, 18, 19, 20, 21, 22, 23, 24, 25, 26, 27, 28, 29, 30, 31, 32, 33, 34, 35, 36, 37, 38, 39, 40, 41] (by decide +kernel) (by decide +kernel)
set_option maxRecDepth 20000 in
theorem gX10_tell_X10_hear : GoodIn wsX10_tell (wsV RX10 153 RX10 yX10_hear wsX10_hear) := goodIn_app (goodIn_of _ (by decide +kernel)) ggX10_tell_X10_hear
theorem dX10_tell_0 : decode cX10_tell 0 = .ok (.aload_n 1, 1) := by decide +kernel
theorem dX10_tell_1 : decode cX10_tell 1 = .ok (.bipush 42, 2) := by decide +kernel
theorem dX10_tell_3 : decode cX10_tell 3 = .ok (.iload_n 2, 1) := by decide +kernel
theorem dX10_tell_4 : decode cX10_tell 4 = .ok (.iadd, 1) := by decide +kernel
theorem dX10_tell_5 : decode cX10_tell 5 = .ok (.iaload, 1) := by decide +kernel
theorem dX10_tell_6 : decode cX10_tell 6 = .ok (.iconst 1, 1) := by decide +kernel
theorem dX10_tell_7 : decode cX10_tell 7 = .ok (.if_icmp .ne 13, 3) := by decide +kernel
theorem dX10_tell_10 : decode cX10_tell 10 = .ok (.aload_n 1, 1) := by decide +kernel
theorem dX10_tell_11 : decode cX10_tell 11 = .ok (.bipush 42, 2) := by decide +kernel
theorem dX10_tell_13 : decode cX10_tell 13 = .ok (.iload_n 2, 1) := by decide +kernel
theorem dX10_tell_14 : decode cX10_tell 14 = .ok (.iadd, 1) := by decide +kernel
theorem dX10_tell_15 : decode cX10_tell 15 = .ok (.iconst 0, 1) := by decide +kernel
theorem dX10_tell_16 : decode cX10_tell 16 = .ok (.iastore, 1) := by decide +kernel
theorem dX10_tell_17 : decode cX10_tell 17 = .ok (.bipush (-9), 2) := by decide +kernel
theorem dX10_tell_19 : decode cX10_tell 19 = .ok (.ireturn, 1) := by decide +kernel
theorem dX10_tell_20 : decode cX10_tell 20 = .ok (.aload_n 0, 1) := by decide +kernel
theorem dX10_tell_21 : decode cX10_tell 21 = .ok (.aload_n 1, 1) := by decide +kernel
theorem dX10_tell_22 : decode cX10_tell 22 = .ok (.iload_n 2, 1) := by decide +kernel
theorem dX10_tell_23 : decode cX10_tell 23 = .ok (.aload_n 0, 1) := by decide +kernel
theorem dX10_tell_24 : decode cX10_tell 24 = .ok (.iload_n 2, 1) := by decide +kernel
theorem dX10_tell_25 : decode cX10_tell 25 = .ok (.iload_n 3, 1) := by decide +kernel
theorem dX10_tell_26 : decode cX10_tell 26 = .ok (.invokevirtual 150, 3) := by decide +kernel
theorem dX10_tell_29 : decode cX10_tell 29 = .ok (.invokevirtual 153, 3) := by decide +kernel
theorem dX10_tell_32 : decode cX10_tell 32 = .ok (.aload_n 0, 1) := by decide +kernel
theorem dX10_tell_33 : decode cX10_tell 33 = .ok (.iload_n 2, 1) := by decide +kernel
theorem dX10_tell_34 : decode cX10_tell 34 = .ok (.iload_n 3, 1) := by decide +kernel
theorem dX10_tell_35 : decode cX10_tell 35 = .ok (.invokevirtual 150, 3) := by decide +kernel
theorem dX10_tell_38 : decode cX10_tell 38 = .ok (.ireturn, 1) := by decide +kernel
set_option maxRecDepth 20000 in
theorem ggX10_sayTo_X10_tell : GoodIn wsX10_sayTo wsX10_tell := goodIn_r _ [5, 6, 7, 8, 4, 9, 10, 11, 12, 13, 14, 15, 16, 17, 18, 19, 20, 21, 22, 23, 24, 25, 26, 27, 28, 29, 30, 31, 32, 33, 34, 35, 36, 37, 38, 39, 40, 41, 42, 43, 44, 45] (by decide +kernel) (by decide +kernel)
set_option maxRecDepth 20000 in
theorem gX10_sayTo_X10_tell : GoodIn wsX10_sayTo (wsV RX10 157 RX10 yX10_tell wsX10_tell) := goodIn_app (goodIn_of _ (by decide +kernel)) ggX10_sayTo_X10_tell
theorem dX10_sayTo_0 : decode cX10_sayTo 0 = .ok (.aload_n 0, 1) := by decide +kernel
theorem dX10_sayTo_1 : decode cX10_sayTo 1 = .ok (.aload_n 1, 1) := by decide +kernel
theorem dX10_sayTo_2 : decode cX10_sayTo 2 = .ok (.iconst 0, 1) := by decide +kernel
theorem dX10_sayTo_3 : decode cX10_sayTo 3 = .ok (.iload_n 2, 1) := by decide +kernel
theorem dX10_sayTo_4 : decode cX10_sayTo 4 = .ok (.invokevirtual 157, 3) := by decide +kernel
theorem dX10_sayTo_7 : decode cX10_sayTo 7 = .ok (.istore_n 3, 1) := by decide +kernel
theorem dX10_sayTo_8 : decode cX10_sayTo 8 = .ok (.aload_n 1, 1) := by decide +kernel
theorem dX10_sayTo_9 : decode cX10_sayTo 9 = .ok (.bipush 35, 2) := by decide +kernel
theorem dX10_sayTo_11 : decode cX10_sayTo 11 = .ok (.iload_n 3, 1) := by decide +kernel
theorem dX10_sayTo_12 : decode cX10_sayTo 12 = .ok (.bipush (-9), 2) := by decide +kernel
theorem dX10_sayTo_14 : decode cX10_sayTo 14 = .ok (.if_icmp .ne 10, 3) := by decide +kernel
theorem dX10_sayTo_17 : decode cX10_sayTo 17 = .ok (.aload_n 1, 1) := by decide +kernel
theorem dX10_sayTo_18 : decode cX10_sayTo 18 = .ok (.bipush 35, 2) := by decide +kernel
theorem dX10_sayTo_20 : decode cX10_sayTo 20 = .ok (.iaload, 1) := by decide +kernel
theorem dX10_sayTo_21 : decode cX10_sayTo 21 = .ok (.goto 4, 3) := by decide +kernel
theorem dX10_sayTo_24 : decode cX10_sayTo 24 = .ok (.iload_n 3, 1) := by decide +kernel
theorem dX10_sayTo_25 : decode cX10_sayTo 25 = .ok (.iastore, 1) := by decide +kernel
theorem dX10_sayTo_26 : decode cX10_sayTo 26 = .ok (.return_, 1) := by decide +kernel
set_option maxRecDepth 20000 in
theorem ggX10_comesAs_X10_tenthsOf : GoodIn wsX10_comesAs wsX10_tenthsOf := goodIn_r _ [9, 10, 11, 12, 13, 14, 15, 16, 17, 18, 19, 20, 21, 22, 23, 24, 25, 26, 27, 28, 29, 30, 31, 32, 33, 34, 35, 36, 37, 38, 39, 40, 41] (by decide +kernel) (by decide +kernel)
set_option maxRecDepth 20000 in
theorem gX10_comesAs_X10_tenthsOf : GoodIn wsX10_comesAs (wsV RX10 142 RX10 yX10_tenthsOf wsX10_tenthsOf) := goodIn_app (goodIn_of _ (by decide +kernel)) ggX10_comesAs_X10_tenthsOf
theorem dX10_comesAs_0 : decode cX10_comesAs 0 = .ok (.aload_n 0, 1) := by decide +kernel
theorem dX10_comesAs_1 : decode cX10_comesAs 1 = .ok (.iload_n 1, 1) := by decide +kernel
theorem dX10_comesAs_2 : decode cX10_comesAs 2 = .ok (.iload_n 2, 1) := by decide +kernel
theorem dX10_comesAs_3 : decode cX10_comesAs 3 = .ok (.iload_n 2, 1) := by decide +kernel
theorem dX10_comesAs_4 : decode cX10_comesAs 4 = .ok (.invokevirtual 142, 3) := by decide +kernel
theorem dX10_comesAs_7 : decode cX10_comesAs 7 = .ok (.bipush 10, 2) := by decide +kernel
theorem dX10_comesAs_9 : decode cX10_comesAs 9 = .ok (.if_icmp .ne 5, 3) := by decide +kernel
theorem dX10_comesAs_12 : decode cX10_comesAs 12 = .ok (.iload_n 2, 1) := by decide +kernel
theorem dX10_comesAs_13 : decode cX10_comesAs 13 = .ok (.ireturn, 1) := by decide +kernel
theorem dX10_comesAs_14 : decode cX10_comesAs 14 = .ok (.aload_n 0, 1) := by decide +kernel
theorem dX10_comesAs_15 : decode cX10_comesAs 15 = .ok (.aload_n 0, 1) := by decide +kernel
theorem dX10_comesAs_16 : decode cX10_comesAs 16 = .ok (.getfield 161, 3) := by decide +kernel
theorem dX10_comesAs_19 : decode cX10_comesAs 19 = .ok (.ldc2_w 164, 3) := by decide +kernel
theorem dX10_comesAs_22 : decode cX10_comesAs 22 = .ok (.lmul, 1) := by decide +kernel
theorem dX10_comesAs_23 : decode cX10_comesAs 23 = .ok (.ldc2_w 166, 3) := by decide +kernel
theorem dX10_comesAs_26 : decode cX10_comesAs 26 = .ok (.ladd, 1) := by decide +kernel
theorem dX10_comesAs_27 : decode cX10_comesAs 27 = .ok (.putfield 161, 3) := by decide +kernel
theorem dX10_comesAs_30 : decode cX10_comesAs 30 = .ok (.aload_n 0, 1) := by decide +kernel
theorem dX10_comesAs_31 : decode cX10_comesAs 31 = .ok (.getfield 161, 3) := by decide +kernel
theorem dX10_comesAs_34 : decode cX10_comesAs 34 = .ok (.bipush 33, 2) := by decide +kernel
theorem dX10_comesAs_36 : decode cX10_comesAs 36 = .ok (.lushr, 1) := by decide +kernel
theorem dX10_comesAs_37 : decode cX10_comesAs 37 = .ok (.ldc2_w 168, 3) := by decide +kernel
theorem dX10_comesAs_40 : decode cX10_comesAs 40 = .ok (.lrem, 1) := by decide +kernel
theorem dX10_comesAs_41 : decode cX10_comesAs 41 = .ok (.l2i, 1) := by decide +kernel
theorem dX10_comesAs_42 : decode cX10_comesAs 42 = .ok (.istore_n 3, 1) := by decide +kernel
theorem dX10_comesAs_43 : decode cX10_comesAs 43 = .ok (.iconst 0, 1) := by decide +kernel
theorem dX10_comesAs_44 : decode cX10_comesAs 44 = .ok (.istore 4, 2) := by decide +kernel
theorem dX10_comesAs_46 : decode cX10_comesAs 46 = .ok (.iload 4, 2) := by decide +kernel
theorem dX10_comesAs_48 : decode cX10_comesAs 48 = .ok (.iconst 5, 1) := by decide +kernel
theorem dX10_comesAs_49 : decode cX10_comesAs 49 = .ok (.if_icmp .ge 43, 3) := by decide +kernel
theorem dX10_comesAs_52 : decode cX10_comesAs 52 = .ok (.iload_n 2, 1) := by decide +kernel
theorem dX10_comesAs_53 : decode cX10_comesAs 53 = .ok (.iload 4, 2) := by decide +kernel
theorem dX10_comesAs_55 : decode cX10_comesAs 55 = .ok (.if_icmp .ne 7, 3) := by decide +kernel
theorem dX10_comesAs_58 : decode cX10_comesAs 58 = .ok (.iconst 0, 1) := by decide +kernel
theorem dX10_comesAs_59 : decode cX10_comesAs 59 = .ok (.goto 11, 3) := by decide +kernel
theorem dX10_comesAs_62 : decode cX10_comesAs 62 = .ok (.aload_n 0, 1) := by decide +kernel
theorem dX10_comesAs_63 : decode cX10_comesAs 63 = .ok (.iload_n 1, 1) := by decide +kernel
theorem dX10_comesAs_64 : decode cX10_comesAs 64 = .ok (.iload_n 2, 1) := by decide +kernel
theorem dX10_comesAs_65 : decode cX10_comesAs 65 = .ok (.iload 4, 2) := by decide +kernel
theorem dX10_comesAs_67 : decode cX10_comesAs 67 = .ok (.invokevirtual 142, 3) := by decide +kernel
theorem dX10_comesAs_70 : decode cX10_comesAs 70 = .ok (.istore 5, 2) := by decide +kernel
theorem dX10_comesAs_72 : decode cX10_comesAs 72 = .ok (.iload_n 3, 1) := by decide +kernel
theorem dX10_comesAs_73 : decode cX10_comesAs 73 = .ok (.iload 5, 2) := by decide +kernel
theorem dX10_comesAs_75 : decode cX10_comesAs 75 = .ok (.if_icmp .ge 6, 3) := by decide +kernel
theorem dX10_comesAs_78 : decode cX10_comesAs 78 = .ok (.iload 4, 2) := by decide +kernel
theorem dX10_comesAs_80 : decode cX10_comesAs 80 = .ok (.ireturn, 1) := by decide +kernel
theorem dX10_comesAs_81 : decode cX10_comesAs 81 = .ok (.iload_n 3, 1) := by decide +kernel
theorem dX10_comesAs_82 : decode cX10_comesAs 82 = .ok (.iload 5, 2) := by decide +kernel
theorem dX10_comesAs_84 : decode cX10_comesAs 84 = .ok (.isub, 1) := by decide +kernel
theorem dX10_comesAs_85 : decode cX10_comesAs 85 = .ok (.istore_n 3, 1) := by decide +kernel
theorem dX10_comesAs_86 : decode cX10_comesAs 86 = .ok (.iinc 4 1, 3) := by decide +kernel
theorem dX10_comesAs_89 : decode cX10_comesAs 89 = .ok (.goto (-43), 3) := by decide +kernel
theorem dX10_comesAs_92 : decode cX10_comesAs 92 = .ok (.iload_n 2, 1) := by decide +kernel
theorem dX10_comesAs_93 : decode cX10_comesAs 93 = .ok (.ireturn, 1) := by decide +kernel
set_option maxRecDepth 20000 in
theorem ggX10_goMinute_X10_comesAs : GoodIn wsX10_goMinute wsX10_comesAs := goodIn_r _ [7, 8, 9, 10, 11, 12, 13, 14, 6, 15, 16, 30, 31, 32, 33, 34, 35, 36, 37, 38, 39, 40, 41, 42, 43, 44, 45, 46, 47, 48, 49, 50, 51, 52, 53, 54, 55, 56, 57, 58, 59, 60] (by decide +kernel) (by decide +kernel)
set_option maxRecDepth 20000 in
theorem gX10_goMinute_X10_comesAs : GoodIn wsX10_goMinute (wsV RX10 170 RX10 yX10_comesAs wsX10_comesAs) := goodIn_app (goodIn_of _ (by decide +kernel)) ggX10_goMinute_X10_comesAs
set_option maxRecDepth 20000 in
theorem ggX10_goMinute_X10_tell : GoodIn wsX10_goMinute wsX10_tell := goodIn_r _ [20, 21, 22, 23, 6, 24, 25, 26, 27, 28, 29, 30, 31, 32, 33, 34, 35, 36, 37, 38, 39, 40, 41, 42, 43, 44, 45, 46, 47, 48, 49, 50, 51, 52, 53, 54, 55, 56, 57, 58, 59, 60] (by decide +kernel) (by decide +kernel)
set_option maxRecDepth 20000 in
theorem gX10_goMinute_X10_tell : GoodIn wsX10_goMinute (wsV RX10 157 RX10 yX10_tell wsX10_tell) := goodIn_app (goodIn_of _ (by decide +kernel)) ggX10_goMinute_X10_tell
theorem dX10_goMinute_0 : decode cX10_goMinute 0 = .ok (.iconst 0, 1) := by decide +kernel
theorem dX10_goMinute_1 : decode cX10_goMinute 1 = .ok (.istore_n 2, 1) := by decide +kernel
theorem dX10_goMinute_2 : decode cX10_goMinute 2 = .ok (.iload_n 2, 1) := by decide +kernel
theorem dX10_goMinute_3 : decode cX10_goMinute 3 = .ok (.bipush 7, 2) := by decide +kernel
theorem dX10_goMinute_5 : decode cX10_goMinute 5 = .ok (.if_icmp .ge 17, 3) := by decide +kernel
theorem dX10_goMinute_8 : decode cX10_goMinute 8 = .ok (.aload_n 0, 1) := by decide +kernel
theorem dX10_goMinute_9 : decode cX10_goMinute 9 = .ok (.getfield 57, 3) := by decide +kernel
theorem dX10_goMinute_12 : decode cX10_goMinute 12 = .ok (.iload_n 2, 1) := by decide +kernel
theorem dX10_goMinute_13 : decode cX10_goMinute 13 = .ok (.bipush (-9), 2) := by decide +kernel
theorem dX10_goMinute_15 : decode cX10_goMinute 15 = .ok (.iastore, 1) := by decide +kernel
theorem dX10_goMinute_16 : decode cX10_goMinute 16 = .ok (.iinc 2 1, 3) := by decide +kernel
theorem dX10_goMinute_19 : decode cX10_goMinute 19 = .ok (.goto (-17), 3) := by decide +kernel
theorem dX10_goMinute_22 : decode cX10_goMinute 22 = .ok (.aload_n 0, 1) := by decide +kernel
theorem dX10_goMinute_23 : decode cX10_goMinute 23 = .ok (.getfield 76, 3) := by decide +kernel
theorem dX10_goMinute_26 : decode cX10_goMinute 26 = .ok (.iconst 1, 1) := by decide +kernel
theorem dX10_goMinute_27 : decode cX10_goMinute 27 = .ok (.isub, 1) := by decide +kernel
theorem dX10_goMinute_28 : decode cX10_goMinute 28 = .ok (.istore_n 2, 1) := by decide +kernel
theorem dX10_goMinute_29 : decode cX10_goMinute 29 = .ok (.iload_n 2, 1) := by decide +kernel
theorem dX10_goMinute_30 : decode cX10_goMinute 30 = .ok (.ifCond .le 43, 3) := by decide +kernel
theorem dX10_goMinute_33 : decode cX10_goMinute 33 = .ok (.aload_n 1, 1) := by decide +kernel
theorem dX10_goMinute_34 : decode cX10_goMinute 34 = .ok (.bipush 34, 2) := by decide +kernel
theorem dX10_goMinute_36 : decode cX10_goMinute 36 = .ok (.iload_n 2, 1) := by decide +kernel
theorem dX10_goMinute_37 : decode cX10_goMinute 37 = .ok (.iadd, 1) := by decide +kernel
theorem dX10_goMinute_38 : decode cX10_goMinute 38 = .ok (.iaload, 1) := by decide +kernel
theorem dX10_goMinute_39 : decode cX10_goMinute 39 = .ok (.bipush (-9), 2) := by decide +kernel
theorem dX10_goMinute_41 : decode cX10_goMinute 41 = .ok (.if_icmp .eq 26, 3) := by decide +kernel
theorem dX10_goMinute_44 : decode cX10_goMinute 44 = .ok (.aload_n 0, 1) := by decide +kernel
theorem dX10_goMinute_45 : decode cX10_goMinute 45 = .ok (.getfield 57, 3) := by decide +kernel
theorem dX10_goMinute_48 : decode cX10_goMinute 48 = .ok (.iload_n 2, 1) := by decide +kernel
theorem dX10_goMinute_49 : decode cX10_goMinute 49 = .ok (.aload_n 0, 1) := by decide +kernel
theorem dX10_goMinute_50 : decode cX10_goMinute 50 = .ok (.aload_n 1, 1) := by decide +kernel
theorem dX10_goMinute_51 : decode cX10_goMinute 51 = .ok (.iload_n 2, 1) := by decide +kernel
theorem dX10_goMinute_52 : decode cX10_goMinute 52 = .ok (.aload_n 0, 1) := by decide +kernel
theorem dX10_goMinute_53 : decode cX10_goMinute 53 = .ok (.iload_n 2, 1) := by decide +kernel
theorem dX10_goMinute_54 : decode cX10_goMinute 54 = .ok (.aload_n 1, 1) := by decide +kernel
theorem dX10_goMinute_55 : decode cX10_goMinute 55 = .ok (.bipush 34, 2) := by decide +kernel
theorem dX10_goMinute_57 : decode cX10_goMinute 57 = .ok (.iload_n 2, 1) := by decide +kernel
theorem dX10_goMinute_58 : decode cX10_goMinute 58 = .ok (.iadd, 1) := by decide +kernel
theorem dX10_goMinute_59 : decode cX10_goMinute 59 = .ok (.iaload, 1) := by decide +kernel
theorem dX10_goMinute_60 : decode cX10_goMinute 60 = .ok (.invokevirtual 170, 3) := by decide +kernel
theorem dX10_goMinute_63 : decode cX10_goMinute 63 = .ok (.invokevirtual 157, 3) := by decide +kernel
theorem dX10_goMinute_66 : decode cX10_goMinute 66 = .ok (.iastore, 1) := by decide +kernel
theorem dX10_goMinute_67 : decode cX10_goMinute 67 = .ok (.iinc 2 (-1), 3) := by decide +kernel
theorem dX10_goMinute_70 : decode cX10_goMinute 70 = .ok (.goto (-41), 3) := by decide +kernel
theorem dX10_goMinute_73 : decode cX10_goMinute 73 = .ok (.aload_n 1, 1) := by decide +kernel
theorem dX10_goMinute_74 : decode cX10_goMinute 74 = .ok (.bipush 49, 2) := by decide +kernel
theorem dX10_goMinute_76 : decode cX10_goMinute 76 = .ok (.dup2, 1) := by decide +kernel
theorem dX10_goMinute_77 : decode cX10_goMinute 77 = .ok (.iaload, 1) := by decide +kernel
theorem dX10_goMinute_78 : decode cX10_goMinute 78 = .ok (.iconst 1, 1) := by decide +kernel
theorem dX10_goMinute_79 : decode cX10_goMinute 79 = .ok (.iadd, 1) := by decide +kernel
theorem dX10_goMinute_80 : decode cX10_goMinute 80 = .ok (.iastore, 1) := by decide +kernel
theorem dX10_goMinute_81 : decode cX10_goMinute 81 = .ok (.iconst 0, 1) := by decide +kernel
theorem dX10_goMinute_82 : decode cX10_goMinute 82 = .ok (.istore_n 2, 1) := by decide +kernel
theorem dX10_goMinute_83 : decode cX10_goMinute 83 = .ok (.iload_n 2, 1) := by decide +kernel
theorem dX10_goMinute_84 : decode cX10_goMinute 84 = .ok (.aload_n 0, 1) := by decide +kernel
theorem dX10_goMinute_85 : decode cX10_goMinute 85 = .ok (.getfield 76, 3) := by decide +kernel
theorem dX10_goMinute_88 : decode cX10_goMinute 88 = .ok (.if_icmp .ge 75, 3) := by decide +kernel
theorem dX10_goMinute_91 : decode cX10_goMinute 91 = .ok (.aload_n 1, 1) := by decide +kernel
theorem dX10_goMinute_92 : decode cX10_goMinute 92 = .ok (.bipush 35, 2) := by decide +kernel
theorem dX10_goMinute_94 : decode cX10_goMinute 94 = .ok (.iload_n 2, 1) := by decide +kernel
theorem dX10_goMinute_95 : decode cX10_goMinute 95 = .ok (.iadd, 1) := by decide +kernel
theorem dX10_goMinute_96 : decode cX10_goMinute 96 = .ok (.aload_n 0, 1) := by decide +kernel
theorem dX10_goMinute_97 : decode cX10_goMinute 97 = .ok (.getfield 57, 3) := by decide +kernel
theorem dX10_goMinute_100 : decode cX10_goMinute 100 = .ok (.iload_n 2, 1) := by decide +kernel
theorem dX10_goMinute_101 : decode cX10_goMinute 101 = .ok (.iaload, 1) := by decide +kernel
theorem dX10_goMinute_102 : decode cX10_goMinute 102 = .ok (.iastore, 1) := by decide +kernel
theorem dX10_goMinute_103 : decode cX10_goMinute 103 = .ok (.aload_n 1, 1) := by decide +kernel
theorem dX10_goMinute_104 : decode cX10_goMinute 104 = .ok (.bipush 14, 2) := by decide +kernel
theorem dX10_goMinute_106 : decode cX10_goMinute 106 = .ok (.iload_n 2, 1) := by decide +kernel
theorem dX10_goMinute_107 : decode cX10_goMinute 107 = .ok (.iadd, 1) := by decide +kernel
theorem dX10_goMinute_108 : decode cX10_goMinute 108 = .ok (.iaload, 1) := by decide +kernel
theorem dX10_goMinute_109 : decode cX10_goMinute 109 = .ok (.istore_n 3, 1) := by decide +kernel
theorem dX10_goMinute_110 : decode cX10_goMinute 110 = .ok (.aload_n 1, 1) := by decide +kernel
theorem dX10_goMinute_111 : decode cX10_goMinute 111 = .ok (.bipush 28, 2) := by decide +kernel
theorem dX10_goMinute_113 : decode cX10_goMinute 113 = .ok (.iload_n 2, 1) := by decide +kernel
theorem dX10_goMinute_114 : decode cX10_goMinute 114 = .ok (.iadd, 1) := by decide +kernel
theorem dX10_goMinute_115 : decode cX10_goMinute 115 = .ok (.dup2, 1) := by decide +kernel
theorem dX10_goMinute_116 : decode cX10_goMinute 116 = .ok (.iaload, 1) := by decide +kernel
theorem dX10_goMinute_117 : decode cX10_goMinute 117 = .ok (.iload_n 3, 1) := by decide +kernel
theorem dX10_goMinute_118 : decode cX10_goMinute 118 = .ok (.iconst 1, 1) := by decide +kernel
theorem dX10_goMinute_119 : decode cX10_goMinute 119 = .ok (.if_icmp .ne 7, 3) := by decide +kernel
theorem dX10_goMinute_122 : decode cX10_goMinute 122 = .ok (.iconst 1, 1) := by decide +kernel
theorem dX10_goMinute_123 : decode cX10_goMinute 123 = .ok (.goto 4, 3) := by decide +kernel
theorem dX10_goMinute_126 : decode cX10_goMinute 126 = .ok (.iconst 0, 1) := by decide +kernel
theorem dX10_goMinute_127 : decode cX10_goMinute 127 = .ok (.iadd, 1) := by decide +kernel
theorem dX10_goMinute_128 : decode cX10_goMinute 128 = .ok (.iastore, 1) := by decide +kernel
theorem dX10_goMinute_129 : decode cX10_goMinute 129 = .ok (.aload_n 1, 1) := by decide +kernel
theorem dX10_goMinute_130 : decode cX10_goMinute 130 = .ok (.bipush 21, 2) := by decide +kernel
theorem dX10_goMinute_132 : decode cX10_goMinute 132 = .ok (.iload_n 2, 1) := by decide +kernel
theorem dX10_goMinute_133 : decode cX10_goMinute 133 = .ok (.iadd, 1) := by decide +kernel
theorem dX10_goMinute_134 : decode cX10_goMinute 134 = .ok (.dup2, 1) := by decide +kernel
theorem dX10_goMinute_135 : decode cX10_goMinute 135 = .ok (.iaload, 1) := by decide +kernel
theorem dX10_goMinute_136 : decode cX10_goMinute 136 = .ok (.iload_n 3, 1) := by decide +kernel
theorem dX10_goMinute_137 : decode cX10_goMinute 137 = .ok (.iconst 2, 1) := by decide +kernel
theorem dX10_goMinute_138 : decode cX10_goMinute 138 = .ok (.if_icmp .ne 7, 3) := by decide +kernel
theorem dX10_goMinute_141 : decode cX10_goMinute 141 = .ok (.iconst (-1), 1) := by decide +kernel
theorem dX10_goMinute_142 : decode cX10_goMinute 142 = .ok (.goto 13, 3) := by decide +kernel
theorem dX10_goMinute_145 : decode cX10_goMinute 145 = .ok (.iload_n 3, 1) := by decide +kernel
theorem dX10_goMinute_146 : decode cX10_goMinute 146 = .ok (.iconst 3, 1) := by decide +kernel
theorem dX10_goMinute_147 : decode cX10_goMinute 147 = .ok (.if_icmp .ne 7, 3) := by decide +kernel
theorem dX10_goMinute_150 : decode cX10_goMinute 150 = .ok (.iconst 1, 1) := by decide +kernel
theorem dX10_goMinute_151 : decode cX10_goMinute 151 = .ok (.goto 4, 3) := by decide +kernel
theorem dX10_goMinute_154 : decode cX10_goMinute 154 = .ok (.iconst 0, 1) := by decide +kernel
theorem dX10_goMinute_155 : decode cX10_goMinute 155 = .ok (.iadd, 1) := by decide +kernel
theorem dX10_goMinute_156 : decode cX10_goMinute 156 = .ok (.iastore, 1) := by decide +kernel
theorem dX10_goMinute_157 : decode cX10_goMinute 157 = .ok (.iinc 2 1, 3) := by decide +kernel
theorem dX10_goMinute_160 : decode cX10_goMinute 160 = .ok (.goto (-77), 3) := by decide +kernel
theorem dX10_goMinute_163 : decode cX10_goMinute 163 = .ok (.return_, 1) := by decide +kernel
theorem dX10_note_0 : decode cX10_note 0 = .ok (.aload_n 0, 1) := by decide +kernel
theorem dX10_note_1 : decode cX10_note 1 = .ok (.getfield 133, 3) := by decide +kernel
theorem dX10_note_4 : decode cX10_note 4 = .ok (.bipush 12, 2) := by decide +kernel
theorem dX10_note_6 : decode cX10_note 6 = .ok (.if_icmp .ne 71, 3) := by decide +kernel
theorem dX10_note_9 : decode cX10_note 9 = .ok (.iconst 0, 1) := by decide +kernel
theorem dX10_note_10 : decode cX10_note 10 = .ok (.istore_n 1, 1) := by decide +kernel
theorem dX10_note_11 : decode cX10_note 11 = .ok (.iload_n 1, 1) := by decide +kernel
theorem dX10_note_12 : decode cX10_note 12 = .ok (.sipush 550, 3) := by decide +kernel
theorem dX10_note_15 : decode cX10_note 15 = .ok (.if_icmp .ge 24, 3) := by decide +kernel
theorem dX10_note_18 : decode cX10_note 18 = .ok (.aload_n 0, 1) := by decide +kernel
theorem dX10_note_19 : decode cX10_note 19 = .ok (.getfield 28, 3) := by decide +kernel
theorem dX10_note_22 : decode cX10_note 22 = .ok (.iload_n 1, 1) := by decide +kernel
theorem dX10_note_23 : decode cX10_note 23 = .ok (.aload_n 0, 1) := by decide +kernel
theorem dX10_note_24 : decode cX10_note 24 = .ok (.getfield 28, 3) := by decide +kernel
theorem dX10_note_27 : decode cX10_note 27 = .ok (.iload_n 1, 1) := by decide +kernel
theorem dX10_note_28 : decode cX10_note 28 = .ok (.bipush 50, 2) := by decide +kernel
theorem dX10_note_30 : decode cX10_note 30 = .ok (.iadd, 1) := by decide +kernel
theorem dX10_note_31 : decode cX10_note 31 = .ok (.iaload, 1) := by decide +kernel
theorem dX10_note_32 : decode cX10_note 32 = .ok (.iastore, 1) := by decide +kernel
theorem dX10_note_33 : decode cX10_note 33 = .ok (.iinc 1 1, 3) := by decide +kernel
theorem dX10_note_36 : decode cX10_note 36 = .ok (.goto (-25), 3) := by decide +kernel
theorem dX10_note_39 : decode cX10_note 39 = .ok (.iconst 0, 1) := by decide +kernel
theorem dX10_note_40 : decode cX10_note 40 = .ok (.istore_n 1, 1) := by decide +kernel
theorem dX10_note_41 : decode cX10_note 41 = .ok (.iload_n 1, 1) := by decide +kernel
theorem dX10_note_42 : decode cX10_note 42 = .ok (.bipush 11, 2) := by decide +kernel
theorem dX10_note_44 : decode cX10_note 44 = .ok (.if_icmp .ge 23, 3) := by decide +kernel
theorem dX10_note_47 : decode cX10_note 47 = .ok (.aload_n 0, 1) := by decide +kernel
theorem dX10_note_48 : decode cX10_note 48 = .ok (.getfield 31, 3) := by decide +kernel
theorem dX10_note_51 : decode cX10_note 51 = .ok (.iload_n 1, 1) := by decide +kernel
theorem dX10_note_52 : decode cX10_note 52 = .ok (.aload_n 0, 1) := by decide +kernel
theorem dX10_note_53 : decode cX10_note 53 = .ok (.getfield 31, 3) := by decide +kernel
theorem dX10_note_56 : decode cX10_note 56 = .ok (.iload_n 1, 1) := by decide +kernel
theorem dX10_note_57 : decode cX10_note 57 = .ok (.iconst 1, 1) := by decide +kernel
theorem dX10_note_58 : decode cX10_note 58 = .ok (.iadd, 1) := by decide +kernel
theorem dX10_note_59 : decode cX10_note 59 = .ok (.laload, 1) := by decide +kernel
theorem dX10_note_60 : decode cX10_note 60 = .ok (.lastore, 1) := by decide +kernel
theorem dX10_note_61 : decode cX10_note 61 = .ok (.iinc 1 1, 3) := by decide +kernel
theorem dX10_note_64 : decode cX10_note 64 = .ok (.goto (-23), 3) := by decide +kernel
theorem dX10_note_67 : decode cX10_note 67 = .ok (.aload_n 0, 1) := by decide +kernel
theorem dX10_note_68 : decode cX10_note 68 = .ok (.dup, 1) := by decide +kernel
theorem dX10_note_69 : decode cX10_note 69 = .ok (.getfield 133, 3) := by decide +kernel
theorem dX10_note_72 : decode cX10_note 72 = .ok (.iconst 1, 1) := by decide +kernel
theorem dX10_note_73 : decode cX10_note 73 = .ok (.isub, 1) := by decide +kernel
theorem dX10_note_74 : decode cX10_note 74 = .ok (.putfield 133, 3) := by decide +kernel
theorem dX10_note_77 : decode cX10_note 77 = .ok (.iconst 0, 1) := by decide +kernel
theorem dX10_note_78 : decode cX10_note 78 = .ok (.istore_n 1, 1) := by decide +kernel
theorem dX10_note_79 : decode cX10_note 79 = .ok (.iload_n 1, 1) := by decide +kernel
theorem dX10_note_80 : decode cX10_note 80 = .ok (.bipush 50, 2) := by decide +kernel
theorem dX10_note_82 : decode cX10_note 82 = .ok (.if_icmp .ge 29, 3) := by decide +kernel
theorem dX10_note_85 : decode cX10_note 85 = .ok (.aload_n 0, 1) := by decide +kernel
theorem dX10_note_86 : decode cX10_note 86 = .ok (.getfield 28, 3) := by decide +kernel
theorem dX10_note_89 : decode cX10_note 89 = .ok (.bipush 50, 2) := by decide +kernel
theorem dX10_note_91 : decode cX10_note 91 = .ok (.aload_n 0, 1) := by decide +kernel
theorem dX10_note_92 : decode cX10_note 92 = .ok (.getfield 133, 3) := by decide +kernel
theorem dX10_note_95 : decode cX10_note 95 = .ok (.imul, 1) := by decide +kernel
theorem dX10_note_96 : decode cX10_note 96 = .ok (.iload_n 1, 1) := by decide +kernel
theorem dX10_note_97 : decode cX10_note 97 = .ok (.iadd, 1) := by decide +kernel
theorem dX10_note_98 : decode cX10_note 98 = .ok (.aload_n 0, 1) := by decide +kernel
theorem dX10_note_99 : decode cX10_note 99 = .ok (.getfield 25, 3) := by decide +kernel
theorem dX10_note_102 : decode cX10_note 102 = .ok (.iload_n 1, 1) := by decide +kernel
theorem dX10_note_103 : decode cX10_note 103 = .ok (.iaload, 1) := by decide +kernel
theorem dX10_note_104 : decode cX10_note 104 = .ok (.iastore, 1) := by decide +kernel
theorem dX10_note_105 : decode cX10_note 105 = .ok (.iinc 1 1, 3) := by decide +kernel
theorem dX10_note_108 : decode cX10_note 108 = .ok (.goto (-29), 3) := by decide +kernel
theorem dX10_note_111 : decode cX10_note 111 = .ok (.aload_n 0, 1) := by decide +kernel
theorem dX10_note_112 : decode cX10_note 112 = .ok (.getfield 31, 3) := by decide +kernel
theorem dX10_note_115 : decode cX10_note 115 = .ok (.aload_n 0, 1) := by decide +kernel
theorem dX10_note_116 : decode cX10_note 116 = .ok (.getfield 133, 3) := by decide +kernel
theorem dX10_note_119 : decode cX10_note 119 = .ok (.aload_n 0, 1) := by decide +kernel
theorem dX10_note_120 : decode cX10_note 120 = .ok (.getfield 146, 3) := by decide +kernel
theorem dX10_note_123 : decode cX10_note 123 = .ok (.lastore, 1) := by decide +kernel
theorem dX10_note_124 : decode cX10_note 124 = .ok (.aload_n 0, 1) := by decide +kernel
theorem dX10_note_125 : decode cX10_note 125 = .ok (.dup, 1) := by decide +kernel
theorem dX10_note_126 : decode cX10_note 126 = .ok (.getfield 133, 3) := by decide +kernel
theorem dX10_note_129 : decode cX10_note 129 = .ok (.iconst 1, 1) := by decide +kernel
theorem dX10_note_130 : decode cX10_note 130 = .ok (.iadd, 1) := by decide +kernel
theorem dX10_note_131 : decode cX10_note 131 = .ok (.putfield 133, 3) := by decide +kernel
theorem dX10_note_134 : decode cX10_note 134 = .ok (.return_, 1) := by decide +kernel
set_option maxRecDepth 20000 in
theorem ggX10_say_X10_noOrder : GoodIn wsX10_say wsX10_noOrder := goodIn_r _ [7, 8, 9, 10, 6, 11] (by decide +kernel) (by decide +kernel)
set_option maxRecDepth 20000 in
theorem gX10_say_X10_noOrder : GoodIn wsX10_say (va_wsS RX10 104 yX10_noOrder wsX10_noOrder) := goodIn_app (goodIn_of _ (by decide +kernel)) ggX10_say_X10_noOrder
set_option maxRecDepth 20000 in
theorem ggX10_say_X10_note : GoodIn wsX10_say wsX10_note := goodIn_r _ [15, 16, 17, 18, 3, 19, 37, 38, 39, 40, 41, 42, 43, 44, 45, 46, 47, 48, 49, 50, 51, 52, 53, 54, 55, 56, 57, 58, 59, 60, 61, 62, 63, 64, 65, 66, 67] (by decide +kernel) (by decide +kernel)
set_option maxRecDepth 20000 in
theorem gX10_say_X10_note : GoodIn wsX10_say (wsV RX10 173 RX10 yX10_note wsX10_note) := goodIn_app (goodIn_of _ (by decide +kernel)) ggX10_say_X10_note
set_option maxRecDepth 20000 in
theorem ggX10_say_X10_sayTo : GoodIn wsX10_say wsX10_sayTo := goodIn_r _ [23, 24, 25, 26, 6, 27, 28, 29, 30, 31, 32, 33, 34, 35, 36, 37, 38, 39, 40, 41, 42, 43, 44, 45, 46, 47, 48, 49, 50, 51, 52, 53, 54, 55, 56, 57, 58, 59, 60, 61, 62, 63, 64, 65, 66, 67] (by decide +kernel) (by decide +kernel)
set_option maxRecDepth 20000 in
theorem gX10_say_X10_sayTo : GoodIn wsX10_say (wsV RX10 176 RX10 yX10_sayTo wsX10_sayTo) := goodIn_app (goodIn_of _ (by decide +kernel)) ggX10_say_X10_sayTo
theorem dX10_say_0 : decode cX10_say 0 = .ok (.aload_n 0, 1) := by decide +kernel
theorem dX10_say_1 : decode cX10_say 1 = .ok (.iconst 0, 1) := by decide +kernel
theorem dX10_say_2 : decode cX10_say 2 = .ok (.putfield 72, 3) := by decide +kernel
theorem dX10_say_5 : decode cX10_say 5 = .ok (.iload_n 1, 1) := by decide +kernel
theorem dX10_say_6 : decode cX10_say 6 = .ok (.invokestatic 104, 3) := by decide +kernel
theorem dX10_say_9 : decode cX10_say 9 = .ok (.ifCond .eq 5, 3) := by decide +kernel
theorem dX10_say_12 : decode cX10_say 12 = .ok (.iconst (-1), 1) := by decide +kernel
theorem dX10_say_13 : decode cX10_say 13 = .ok (.ireturn, 1) := by decide +kernel
theorem dX10_say_14 : decode cX10_say 14 = .ok (.aload_n 0, 1) := by decide +kernel
theorem dX10_say_15 : decode cX10_say 15 = .ok (.getfield 76, 3) := by decide +kernel
theorem dX10_say_18 : decode cX10_say 18 = .ok (.ifCond .ne 6, 3) := by decide +kernel
theorem dX10_say_21 : decode cX10_say 21 = .ok (.bipush (-3), 2) := by decide +kernel
theorem dX10_say_23 : decode cX10_say 23 = .ok (.ireturn, 1) := by decide +kernel
theorem dX10_say_24 : decode cX10_say 24 = .ok (.aload_n 0, 1) := by decide +kernel
theorem dX10_say_25 : decode cX10_say 25 = .ok (.invokevirtual 173, 3) := by decide +kernel
theorem dX10_say_28 : decode cX10_say 28 = .ok (.aload_n 0, 1) := by decide +kernel
theorem dX10_say_29 : decode cX10_say 29 = .ok (.aload_n 0, 1) := by decide +kernel
theorem dX10_say_30 : decode cX10_say 30 = .ok (.getfield 25, 3) := by decide +kernel
theorem dX10_say_33 : decode cX10_say 33 = .ok (.iload_n 1, 1) := by decide +kernel
theorem dX10_say_34 : decode cX10_say 34 = .ok (.invokevirtual 176, 3) := by decide +kernel
theorem dX10_say_37 : decode cX10_say 37 = .ok (.aload_n 0, 1) := by decide +kernel
theorem dX10_say_38 : decode cX10_say 38 = .ok (.getfield 25, 3) := by decide +kernel
theorem dX10_say_41 : decode cX10_say 41 = .ok (.bipush 14, 2) := by decide +kernel
theorem dX10_say_43 : decode cX10_say 43 = .ok (.iaload, 1) := by decide +kernel
theorem dX10_say_44 : decode cX10_say 44 = .ok (.ireturn, 1) := by decide +kernel
set_option maxRecDepth 20000 in
theorem ggX10_minute_X10_note : GoodIn wsX10_minute wsX10_note := goodIn_r _ [9, 10, 11, 12, 4, 2, 44, 45, 46, 47, 48, 49, 50, 51, 52, 53, 54, 55, 56, 57, 58, 59, 60, 61, 62, 63, 64, 65, 66, 67, 68, 69, 70, 71, 72, 73, 74] (by decide +kernel) (by decide +kernel)
set_option maxRecDepth 20000 in
theorem gX10_minute_X10_note : GoodIn wsX10_minute (wsV RX10 173 RX10 yX10_note wsX10_note) := goodIn_app (goodIn_of _ (by decide +kernel)) ggX10_minute_X10_note
set_option maxRecDepth 20000 in
theorem ggX10_minute_X10_goMinute : GoodIn wsX10_minute wsX10_goMinute := goodIn_r _ [16, 17, 18, 19, 20, 21, 8, 22, 3, 23, 24, 25, 26, 27, 28, 29, 30, 31, 32, 33, 34, 35, 36, 37, 38, 39, 40, 41, 42, 43, 44, 45, 46, 47, 48, 49, 50, 51, 52, 53, 54, 55, 56, 57, 58, 59, 60, 61, 62, 63, 64, 65, 66, 67, 68, 69, 70, 71, 72, 73, 74] (by decide +kernel) (by decide +kernel)
set_option maxRecDepth 20000 in
theorem gX10_minute_X10_goMinute : GoodIn wsX10_minute (wsV RX10 180 RX10 yX10_goMinute wsX10_goMinute) := goodIn_app (goodIn_of _ (by decide +kernel)) ggX10_minute_X10_goMinute
theorem dX10_minute_0 : decode cX10_minute 0 = .ok (.aload_n 0, 1) := by decide +kernel
theorem dX10_minute_1 : decode cX10_minute 1 = .ok (.iconst 0, 1) := by decide +kernel
theorem dX10_minute_2 : decode cX10_minute 2 = .ok (.putfield 72, 3) := by decide +kernel
theorem dX10_minute_5 : decode cX10_minute 5 = .ok (.aload_n 0, 1) := by decide +kernel
theorem dX10_minute_6 : decode cX10_minute 6 = .ok (.invokevirtual 173, 3) := by decide +kernel
theorem dX10_minute_9 : decode cX10_minute 9 = .ok (.aload_n 0, 1) := by decide +kernel
theorem dX10_minute_10 : decode cX10_minute 10 = .ok (.aload_n 0, 1) := by decide +kernel
theorem dX10_minute_11 : decode cX10_minute 11 = .ok (.getfield 146, 3) := by decide +kernel
theorem dX10_minute_14 : decode cX10_minute 14 = .ok (.putfield 161, 3) := by decide +kernel
theorem dX10_minute_17 : decode cX10_minute 17 = .ok (.aload_n 0, 1) := by decide +kernel
theorem dX10_minute_18 : decode cX10_minute 18 = .ok (.aload_n 0, 1) := by decide +kernel
theorem dX10_minute_19 : decode cX10_minute 19 = .ok (.getfield 25, 3) := by decide +kernel
theorem dX10_minute_22 : decode cX10_minute 22 = .ok (.invokevirtual 180, 3) := by decide +kernel
theorem dX10_minute_25 : decode cX10_minute 25 = .ok (.aload_n 0, 1) := by decide +kernel
theorem dX10_minute_26 : decode cX10_minute 26 = .ok (.aload_n 0, 1) := by decide +kernel
theorem dX10_minute_27 : decode cX10_minute 27 = .ok (.getfield 161, 3) := by decide +kernel
theorem dX10_minute_30 : decode cX10_minute 30 = .ok (.putfield 146, 3) := by decide +kernel
theorem dX10_minute_33 : decode cX10_minute 33 = .ok (.aload_n 0, 1) := by decide +kernel
theorem dX10_minute_34 : decode cX10_minute 34 = .ok (.getfield 25, 3) := by decide +kernel
theorem dX10_minute_37 : decode cX10_minute 37 = .ok (.bipush 49, 2) := by decide +kernel
theorem dX10_minute_39 : decode cX10_minute 39 = .ok (.iaload, 1) := by decide +kernel
theorem dX10_minute_40 : decode cX10_minute 40 = .ok (.ireturn, 1) := by decide +kernel
set_option maxRecDepth 20000 in
theorem ggX10_bugle_X10_note : GoodIn wsX10_bugle wsX10_note := goodIn_r _ [8, 9, 10, 11, 3, 12, 18, 19, 20, 21, 22, 23, 24, 25, 26, 27, 28, 29, 30, 31, 32, 33, 34, 35, 36, 37, 38, 39, 40, 41, 42, 43, 44, 45, 46, 47, 48] (by decide +kernel) (by decide +kernel)
set_option maxRecDepth 20000 in
theorem gX10_bugle_X10_note : GoodIn wsX10_bugle (wsV RX10 173 RX10 yX10_note wsX10_note) := goodIn_app (goodIn_of _ (by decide +kernel)) ggX10_bugle_X10_note
set_option maxRecDepth 20000 in
theorem ggX10_bugle_X10_hear : GoodIn wsX10_bugle wsX10_hear := goodIn_r _ [16, 17, 18, 19, 20, 21, 22, 23, 24, 25, 26, 27, 28, 29, 30, 31, 32, 33, 34, 35, 36, 37, 38, 39, 40, 41, 42, 43, 44, 45, 46, 47, 48] (by decide +kernel) (by decide +kernel)
set_option maxRecDepth 20000 in
theorem gX10_bugle_X10_hear : GoodIn wsX10_bugle (wsV RX10 153 RX10 yX10_hear wsX10_hear) := goodIn_app (goodIn_of _ (by decide +kernel)) ggX10_bugle_X10_hear
theorem dX10_bugle_0 : decode cX10_bugle 0 = .ok (.aload_n 0, 1) := by decide +kernel
theorem dX10_bugle_1 : decode cX10_bugle 1 = .ok (.iconst 0, 1) := by decide +kernel
theorem dX10_bugle_2 : decode cX10_bugle 2 = .ok (.putfield 72, 3) := by decide +kernel
theorem dX10_bugle_5 : decode cX10_bugle 5 = .ok (.aload_n 0, 1) := by decide +kernel
theorem dX10_bugle_6 : decode cX10_bugle 6 = .ok (.invokevirtual 173, 3) := by decide +kernel
theorem dX10_bugle_9 : decode cX10_bugle 9 = .ok (.iconst 0, 1) := by decide +kernel
theorem dX10_bugle_10 : decode cX10_bugle 10 = .ok (.istore_n 1, 1) := by decide +kernel
theorem dX10_bugle_11 : decode cX10_bugle 11 = .ok (.iconst 0, 1) := by decide +kernel
theorem dX10_bugle_12 : decode cX10_bugle 12 = .ok (.istore_n 2, 1) := by decide +kernel
theorem dX10_bugle_13 : decode cX10_bugle 13 = .ok (.iload_n 2, 1) := by decide +kernel
theorem dX10_bugle_14 : decode cX10_bugle 14 = .ok (.aload_n 0, 1) := by decide +kernel
theorem dX10_bugle_15 : decode cX10_bugle 15 = .ok (.getfield 76, 3) := by decide +kernel
theorem dX10_bugle_18 : decode cX10_bugle 18 = .ok (.if_icmp .ge 34, 3) := by decide +kernel
theorem dX10_bugle_21 : decode cX10_bugle 21 = .ok (.aload_n 0, 1) := by decide +kernel
theorem dX10_bugle_22 : decode cX10_bugle 22 = .ok (.getfield 25, 3) := by decide +kernel
theorem dX10_bugle_25 : decode cX10_bugle 25 = .ok (.bipush 42, 2) := by decide +kernel
theorem dX10_bugle_27 : decode cX10_bugle 27 = .ok (.iload_n 2, 1) := by decide +kernel
theorem dX10_bugle_28 : decode cX10_bugle 28 = .ok (.iadd, 1) := by decide +kernel
theorem dX10_bugle_29 : decode cX10_bugle 29 = .ok (.iaload, 1) := by decide +kernel
theorem dX10_bugle_30 : decode cX10_bugle 30 = .ok (.ifCond .ne 16, 3) := by decide +kernel
theorem dX10_bugle_33 : decode cX10_bugle 33 = .ok (.aload_n 0, 1) := by decide +kernel
theorem dX10_bugle_34 : decode cX10_bugle 34 = .ok (.aload_n 0, 1) := by decide +kernel
theorem dX10_bugle_35 : decode cX10_bugle 35 = .ok (.getfield 25, 3) := by decide +kernel
theorem dX10_bugle_38 : decode cX10_bugle 38 = .ok (.iload_n 2, 1) := by decide +kernel
theorem dX10_bugle_39 : decode cX10_bugle 39 = .ok (.iconst 0, 1) := by decide +kernel
theorem dX10_bugle_40 : decode cX10_bugle 40 = .ok (.invokevirtual 153, 3) := by decide +kernel
theorem dX10_bugle_43 : decode cX10_bugle 43 = .ok (.iinc 1 1, 3) := by decide +kernel
theorem dX10_bugle_46 : decode cX10_bugle 46 = .ok (.iinc 2 1, 3) := by decide +kernel
theorem dX10_bugle_49 : decode cX10_bugle 49 = .ok (.goto (-36), 3) := by decide +kernel
theorem dX10_bugle_52 : decode cX10_bugle 52 = .ok (.iload_n 1, 1) := by decide +kernel
theorem dX10_bugle_53 : decode cX10_bugle 53 = .ok (.ireturn, 1) := by decide +kernel
theorem dX10_undo_0 : decode cX10_undo 0 = .ok (.aload_n 0, 1) := by decide +kernel
theorem dX10_undo_1 : decode cX10_undo 1 = .ok (.iconst 0, 1) := by decide +kernel
theorem dX10_undo_2 : decode cX10_undo 2 = .ok (.putfield 72, 3) := by decide +kernel
theorem dX10_undo_5 : decode cX10_undo 5 = .ok (.aload_n 0, 1) := by decide +kernel
theorem dX10_undo_6 : decode cX10_undo 6 = .ok (.getfield 133, 3) := by decide +kernel
theorem dX10_undo_9 : decode cX10_undo 9 = .ok (.ifCond .ne 6, 3) := by decide +kernel
theorem dX10_undo_12 : decode cX10_undo 12 = .ok (.bipush (-3), 2) := by decide +kernel
theorem dX10_undo_14 : decode cX10_undo 14 = .ok (.ireturn, 1) := by decide +kernel
theorem dX10_undo_15 : decode cX10_undo 15 = .ok (.aload_n 0, 1) := by decide +kernel
theorem dX10_undo_16 : decode cX10_undo 16 = .ok (.dup, 1) := by decide +kernel
theorem dX10_undo_17 : decode cX10_undo 17 = .ok (.getfield 133, 3) := by decide +kernel
theorem dX10_undo_20 : decode cX10_undo 20 = .ok (.iconst 1, 1) := by decide +kernel
theorem dX10_undo_21 : decode cX10_undo 21 = .ok (.isub, 1) := by decide +kernel
theorem dX10_undo_22 : decode cX10_undo 22 = .ok (.putfield 133, 3) := by decide +kernel
theorem dX10_undo_25 : decode cX10_undo 25 = .ok (.iconst 0, 1) := by decide +kernel
theorem dX10_undo_26 : decode cX10_undo 26 = .ok (.istore_n 1, 1) := by decide +kernel
theorem dX10_undo_27 : decode cX10_undo 27 = .ok (.iload_n 1, 1) := by decide +kernel
theorem dX10_undo_28 : decode cX10_undo 28 = .ok (.bipush 50, 2) := by decide +kernel
theorem dX10_undo_30 : decode cX10_undo 30 = .ok (.if_icmp .ge 29, 3) := by decide +kernel
theorem dX10_undo_33 : decode cX10_undo 33 = .ok (.aload_n 0, 1) := by decide +kernel
theorem dX10_undo_34 : decode cX10_undo 34 = .ok (.getfield 25, 3) := by decide +kernel
theorem dX10_undo_37 : decode cX10_undo 37 = .ok (.iload_n 1, 1) := by decide +kernel
theorem dX10_undo_38 : decode cX10_undo 38 = .ok (.aload_n 0, 1) := by decide +kernel
theorem dX10_undo_39 : decode cX10_undo 39 = .ok (.getfield 28, 3) := by decide +kernel
theorem dX10_undo_42 : decode cX10_undo 42 = .ok (.bipush 50, 2) := by decide +kernel
theorem dX10_undo_44 : decode cX10_undo 44 = .ok (.aload_n 0, 1) := by decide +kernel
theorem dX10_undo_45 : decode cX10_undo 45 = .ok (.getfield 133, 3) := by decide +kernel
theorem dX10_undo_48 : decode cX10_undo 48 = .ok (.imul, 1) := by decide +kernel
theorem dX10_undo_49 : decode cX10_undo 49 = .ok (.iload_n 1, 1) := by decide +kernel
theorem dX10_undo_50 : decode cX10_undo 50 = .ok (.iadd, 1) := by decide +kernel
theorem dX10_undo_51 : decode cX10_undo 51 = .ok (.iaload, 1) := by decide +kernel
theorem dX10_undo_52 : decode cX10_undo 52 = .ok (.iastore, 1) := by decide +kernel
theorem dX10_undo_53 : decode cX10_undo 53 = .ok (.iinc 1 1, 3) := by decide +kernel
theorem dX10_undo_56 : decode cX10_undo 56 = .ok (.goto (-29), 3) := by decide +kernel
theorem dX10_undo_59 : decode cX10_undo 59 = .ok (.aload_n 0, 1) := by decide +kernel
theorem dX10_undo_60 : decode cX10_undo 60 = .ok (.aload_n 0, 1) := by decide +kernel
theorem dX10_undo_61 : decode cX10_undo 61 = .ok (.getfield 31, 3) := by decide +kernel
theorem dX10_undo_64 : decode cX10_undo 64 = .ok (.aload_n 0, 1) := by decide +kernel
theorem dX10_undo_65 : decode cX10_undo 65 = .ok (.getfield 133, 3) := by decide +kernel
theorem dX10_undo_68 : decode cX10_undo 68 = .ok (.laload, 1) := by decide +kernel
theorem dX10_undo_69 : decode cX10_undo 69 = .ok (.putfield 146, 3) := by decide +kernel
theorem dX10_undo_72 : decode cX10_undo 72 = .ok (.aload_n 0, 1) := by decide +kernel
theorem dX10_undo_73 : decode cX10_undo 73 = .ok (.getfield 133, 3) := by decide +kernel
theorem dX10_undo_76 : decode cX10_undo 76 = .ok (.ireturn, 1) := by decide +kernel
set_option maxRecDepth 20000 in
theorem ggX10_layParts_X10_turned : GoodIn wsX10_layParts wsX10_turned := goodIn_r _ [7, 8, 14, 15, 16, 17, 18, 19, 20, 21, 22, 23, 24, 25, 26, 27, 28, 29, 30, 31, 32, 33, 34, 35, 36, 37, 38, 39, 40, 41, 42, 43, 44] (by decide +kernel) (by decide +kernel)
set_option maxRecDepth 20000 in
theorem gX10_layParts_X10_turned : GoodIn wsX10_layParts (wsV RX10 150 RX10 yX10_turned wsX10_turned) := goodIn_app (goodIn_of _ (by decide +kernel)) ggX10_layParts_X10_turned
set_option maxRecDepth 20000 in
theorem ggX10_layParts_X10_tenthsOf : GoodIn wsX10_layParts wsX10_tenthsOf := goodIn_r _ [12, 13, 14, 15, 16, 17, 18, 19, 20, 21, 22, 23, 24, 25, 26, 27, 28, 29, 30, 31, 32, 33, 34, 35, 36, 37, 38, 39, 40, 41, 42, 43, 44] (by decide +kernel) (by decide +kernel)
set_option maxRecDepth 20000 in
theorem gX10_layParts_X10_tenthsOf : GoodIn wsX10_layParts (wsV RX10 142 RX10 yX10_tenthsOf wsX10_tenthsOf) := goodIn_app (goodIn_of _ (by decide +kernel)) ggX10_layParts_X10_tenthsOf
theorem dX10_layParts_0 : decode cX10_layParts 0 = .ok (.iconst 0, 1) := by decide +kernel
theorem dX10_layParts_1 : decode cX10_layParts 1 = .ok (.istore 4, 2) := by decide +kernel
theorem dX10_layParts_3 : decode cX10_layParts 3 = .ok (.iload 4, 2) := by decide +kernel
theorem dX10_layParts_5 : decode cX10_layParts 5 = .ok (.iconst 5, 1) := by decide +kernel
theorem dX10_layParts_6 : decode cX10_layParts 6 = .ok (.if_icmp .ge 32, 3) := by decide +kernel
theorem dX10_layParts_9 : decode cX10_layParts 9 = .ok (.aload_n 0, 1) := by decide +kernel
theorem dX10_layParts_10 : decode cX10_layParts 10 = .ok (.getfield 60, 3) := by decide +kernel
theorem dX10_layParts_13 : decode cX10_layParts 13 = .ok (.iload 4, 2) := by decide +kernel
theorem dX10_layParts_15 : decode cX10_layParts 15 = .ok (.iload 4, 2) := by decide +kernel
theorem dX10_layParts_17 : decode cX10_layParts 17 = .ok (.aload_n 0, 1) := by decide +kernel
theorem dX10_layParts_18 : decode cX10_layParts 18 = .ok (.iload_n 1, 1) := by decide +kernel
theorem dX10_layParts_19 : decode cX10_layParts 19 = .ok (.iload_n 3, 1) := by decide +kernel
theorem dX10_layParts_20 : decode cX10_layParts 20 = .ok (.invokevirtual 150, 3) := by decide +kernel
theorem dX10_layParts_23 : decode cX10_layParts 23 = .ok (.if_icmp .ne 7, 3) := by decide +kernel
theorem dX10_layParts_26 : decode cX10_layParts 26 = .ok (.lconst 1, 1) := by decide +kernel
theorem dX10_layParts_27 : decode cX10_layParts 27 = .ok (.goto 4, 3) := by decide +kernel
theorem dX10_layParts_30 : decode cX10_layParts 30 = .ok (.lconst 0, 1) := by decide +kernel
theorem dX10_layParts_31 : decode cX10_layParts 31 = .ok (.lastore, 1) := by decide +kernel
theorem dX10_layParts_32 : decode cX10_layParts 32 = .ok (.iinc 4 1, 3) := by decide +kernel
theorem dX10_layParts_35 : decode cX10_layParts 35 = .ok (.goto (-32), 3) := by decide +kernel
theorem dX10_layParts_38 : decode cX10_layParts 38 = .ok (.iload_n 1, 1) := by decide +kernel
theorem dX10_layParts_39 : decode cX10_layParts 39 = .ok (.iconst 1, 1) := by decide +kernel
theorem dX10_layParts_40 : decode cX10_layParts 40 = .ok (.iadd, 1) := by decide +kernel
theorem dX10_layParts_41 : decode cX10_layParts 41 = .ok (.istore 4, 2) := by decide +kernel
theorem dX10_layParts_43 : decode cX10_layParts 43 = .ok (.iload 4, 2) := by decide +kernel
theorem dX10_layParts_45 : decode cX10_layParts 45 = .ok (.iload_n 2, 1) := by decide +kernel
theorem dX10_layParts_46 : decode cX10_layParts 46 = .ok (.if_icmp .gt 126, 3) := by decide +kernel
theorem dX10_layParts_49 : decode cX10_layParts 49 = .ok (.iconst 0, 1) := by decide +kernel
theorem dX10_layParts_50 : decode cX10_layParts 50 = .ok (.istore 5, 2) := by decide +kernel
theorem dX10_layParts_52 : decode cX10_layParts 52 = .ok (.iload 5, 2) := by decide +kernel
theorem dX10_layParts_54 : decode cX10_layParts 54 = .ok (.iconst 5, 1) := by decide +kernel
theorem dX10_layParts_55 : decode cX10_layParts 55 = .ok (.if_icmp .ge 17, 3) := by decide +kernel
theorem dX10_layParts_58 : decode cX10_layParts 58 = .ok (.aload_n 0, 1) := by decide +kernel
theorem dX10_layParts_59 : decode cX10_layParts 59 = .ok (.getfield 63, 3) := by decide +kernel
theorem dX10_layParts_62 : decode cX10_layParts 62 = .ok (.iload 5, 2) := by decide +kernel
theorem dX10_layParts_64 : decode cX10_layParts 64 = .ok (.lconst 0, 1) := by decide +kernel
theorem dX10_layParts_65 : decode cX10_layParts 65 = .ok (.lastore, 1) := by decide +kernel
theorem dX10_layParts_66 : decode cX10_layParts 66 = .ok (.iinc 5 1, 3) := by decide +kernel
theorem dX10_layParts_69 : decode cX10_layParts 69 = .ok (.goto (-17), 3) := by decide +kernel
theorem dX10_layParts_72 : decode cX10_layParts 72 = .ok (.iconst 0, 1) := by decide +kernel
theorem dX10_layParts_73 : decode cX10_layParts 73 = .ok (.istore 5, 2) := by decide +kernel
theorem dX10_layParts_75 : decode cX10_layParts 75 = .ok (.iload 5, 2) := by decide +kernel
theorem dX10_layParts_77 : decode cX10_layParts 77 = .ok (.iconst 5, 1) := by decide +kernel
theorem dX10_layParts_78 : decode cX10_layParts 78 = .ok (.if_icmp .ge 59, 3) := by decide +kernel
theorem dX10_layParts_81 : decode cX10_layParts 81 = .ok (.iconst 0, 1) := by decide +kernel
theorem dX10_layParts_82 : decode cX10_layParts 82 = .ok (.istore 6, 2) := by decide +kernel
theorem dX10_layParts_84 : decode cX10_layParts 84 = .ok (.iload 6, 2) := by decide +kernel
theorem dX10_layParts_86 : decode cX10_layParts 86 = .ok (.iconst 5, 1) := by decide +kernel
theorem dX10_layParts_87 : decode cX10_layParts 87 = .ok (.if_icmp .ge 44, 3) := by decide +kernel
theorem dX10_layParts_90 : decode cX10_layParts 90 = .ok (.aload_n 0, 1) := by decide +kernel
theorem dX10_layParts_91 : decode cX10_layParts 91 = .ok (.getfield 63, 3) := by decide +kernel
theorem dX10_layParts_94 : decode cX10_layParts 94 = .ok (.aload_n 0, 1) := by decide +kernel
theorem dX10_layParts_95 : decode cX10_layParts 95 = .ok (.iload 4, 2) := by decide +kernel
theorem dX10_layParts_97 : decode cX10_layParts 97 = .ok (.iload 6, 2) := by decide +kernel
theorem dX10_layParts_99 : decode cX10_layParts 99 = .ok (.invokevirtual 150, 3) := by decide +kernel
theorem dX10_layParts_102 : decode cX10_layParts 102 = .ok (.dup2, 1) := by decide +kernel
theorem dX10_layParts_103 : decode cX10_layParts 103 = .ok (.laload, 1) := by decide +kernel
theorem dX10_layParts_104 : decode cX10_layParts 104 = .ok (.aload_n 0, 1) := by decide +kernel
theorem dX10_layParts_105 : decode cX10_layParts 105 = .ok (.getfield 60, 3) := by decide +kernel
theorem dX10_layParts_108 : decode cX10_layParts 108 = .ok (.iload 5, 2) := by decide +kernel
theorem dX10_layParts_110 : decode cX10_layParts 110 = .ok (.laload, 1) := by decide +kernel
theorem dX10_layParts_111 : decode cX10_layParts 111 = .ok (.aload_n 0, 1) := by decide +kernel
theorem dX10_layParts_112 : decode cX10_layParts 112 = .ok (.iload 4, 2) := by decide +kernel
theorem dX10_layParts_114 : decode cX10_layParts 114 = .ok (.iload 5, 2) := by decide +kernel
theorem dX10_layParts_116 : decode cX10_layParts 116 = .ok (.iload 6, 2) := by decide +kernel
theorem dX10_layParts_118 : decode cX10_layParts 118 = .ok (.invokevirtual 142, 3) := by decide +kernel
theorem dX10_layParts_121 : decode cX10_layParts 121 = .ok (.i2l, 1) := by decide +kernel
theorem dX10_layParts_122 : decode cX10_layParts 122 = .ok (.lmul, 1) := by decide +kernel
theorem dX10_layParts_123 : decode cX10_layParts 123 = .ok (.ladd, 1) := by decide +kernel
theorem dX10_layParts_124 : decode cX10_layParts 124 = .ok (.lastore, 1) := by decide +kernel
theorem dX10_layParts_125 : decode cX10_layParts 125 = .ok (.iinc 6 1, 3) := by decide +kernel
theorem dX10_layParts_128 : decode cX10_layParts 128 = .ok (.goto (-44), 3) := by decide +kernel
theorem dX10_layParts_131 : decode cX10_layParts 131 = .ok (.iinc 5 1, 3) := by decide +kernel
theorem dX10_layParts_134 : decode cX10_layParts 134 = .ok (.goto (-59), 3) := by decide +kernel
theorem dX10_layParts_137 : decode cX10_layParts 137 = .ok (.iconst 0, 1) := by decide +kernel
theorem dX10_layParts_138 : decode cX10_layParts 138 = .ok (.istore 5, 2) := by decide +kernel
theorem dX10_layParts_140 : decode cX10_layParts 140 = .ok (.iload 5, 2) := by decide +kernel
theorem dX10_layParts_142 : decode cX10_layParts 142 = .ok (.iconst 5, 1) := by decide +kernel
theorem dX10_layParts_143 : decode cX10_layParts 143 = .ok (.if_icmp .ge 23, 3) := by decide +kernel
theorem dX10_layParts_146 : decode cX10_layParts 146 = .ok (.aload_n 0, 1) := by decide +kernel
theorem dX10_layParts_147 : decode cX10_layParts 147 = .ok (.getfield 60, 3) := by decide +kernel
theorem dX10_layParts_150 : decode cX10_layParts 150 = .ok (.iload 5, 2) := by decide +kernel
theorem dX10_layParts_152 : decode cX10_layParts 152 = .ok (.aload_n 0, 1) := by decide +kernel
theorem dX10_layParts_153 : decode cX10_layParts 153 = .ok (.getfield 63, 3) := by decide +kernel
theorem dX10_layParts_156 : decode cX10_layParts 156 = .ok (.iload 5, 2) := by decide +kernel
theorem dX10_layParts_158 : decode cX10_layParts 158 = .ok (.laload, 1) := by decide +kernel
theorem dX10_layParts_159 : decode cX10_layParts 159 = .ok (.lastore, 1) := by decide +kernel
theorem dX10_layParts_160 : decode cX10_layParts 160 = .ok (.iinc 5 1, 3) := by decide +kernel
theorem dX10_layParts_163 : decode cX10_layParts 163 = .ok (.goto (-23), 3) := by decide +kernel
theorem dX10_layParts_166 : decode cX10_layParts 166 = .ok (.iinc 4 1, 3) := by decide +kernel
theorem dX10_layParts_169 : decode cX10_layParts 169 = .ok (.goto (-126), 3) := by decide +kernel
theorem dX10_layParts_172 : decode cX10_layParts 172 = .ok (.return_, 1) := by decide +kernel
theorem dX10_ten_0 : decode cX10_ten 0 = .ok (.lconst 1, 1) := by decide +kernel
theorem dX10_ten_1 : decode cX10_ten 1 = .ok (.lstore_n 1, 1) := by decide +kernel
theorem dX10_ten_2 : decode cX10_ten 2 = .ok (.iconst 0, 1) := by decide +kernel
theorem dX10_ten_3 : decode cX10_ten 3 = .ok (.istore_n 3, 1) := by decide +kernel
theorem dX10_ten_4 : decode cX10_ten 4 = .ok (.iload_n 3, 1) := by decide +kernel
theorem dX10_ten_5 : decode cX10_ten 5 = .ok (.iload_n 0, 1) := by decide +kernel
theorem dX10_ten_6 : decode cX10_ten 6 = .ok (.if_icmp .ge 15, 3) := by decide +kernel
theorem dX10_ten_9 : decode cX10_ten 9 = .ok (.lload_n 1, 1) := by decide +kernel
theorem dX10_ten_10 : decode cX10_ten 10 = .ok (.ldc2_w 168, 3) := by decide +kernel
theorem dX10_ten_13 : decode cX10_ten 13 = .ok (.lmul, 1) := by decide +kernel
theorem dX10_ten_14 : decode cX10_ten 14 = .ok (.lstore_n 1, 1) := by decide +kernel
theorem dX10_ten_15 : decode cX10_ten 15 = .ok (.iinc 3 1, 3) := by decide +kernel
theorem dX10_ten_18 : decode cX10_ten 18 = .ok (.goto (-14), 3) := by decide +kernel
theorem dX10_ten_21 : decode cX10_ten 21 = .ok (.lload_n 1, 1) := by decide +kernel
theorem dX10_ten_22 : decode cX10_ten 22 = .ok (.lreturn, 1) := by decide +kernel
theorem dX10_divisor_0 : decode cX10_divisor 0 = .ok (.lload_n 0, 1) := by decide +kernel
theorem dX10_divisor_1 : decode cX10_divisor 1 = .ok (.lstore 4, 2) := by decide +kernel
theorem dX10_divisor_3 : decode cX10_divisor 3 = .ok (.lload_n 2, 1) := by decide +kernel
theorem dX10_divisor_4 : decode cX10_divisor 4 = .ok (.lstore 6, 2) := by decide +kernel
theorem dX10_divisor_6 : decode cX10_divisor 6 = .ok (.lload 6, 2) := by decide +kernel
theorem dX10_divisor_8 : decode cX10_divisor 8 = .ok (.lconst 0, 1) := by decide +kernel
theorem dX10_divisor_9 : decode cX10_divisor 9 = .ok (.lcmp, 1) := by decide +kernel
theorem dX10_divisor_10 : decode cX10_divisor 10 = .ok (.ifCond .eq 21, 3) := by decide +kernel
theorem dX10_divisor_13 : decode cX10_divisor 13 = .ok (.lload 4, 2) := by decide +kernel
theorem dX10_divisor_15 : decode cX10_divisor 15 = .ok (.lload 6, 2) := by decide +kernel
theorem dX10_divisor_17 : decode cX10_divisor 17 = .ok (.lrem, 1) := by decide +kernel
theorem dX10_divisor_18 : decode cX10_divisor 18 = .ok (.lstore 8, 2) := by decide +kernel
theorem dX10_divisor_20 : decode cX10_divisor 20 = .ok (.lload 6, 2) := by decide +kernel
theorem dX10_divisor_22 : decode cX10_divisor 22 = .ok (.lstore 4, 2) := by decide +kernel
theorem dX10_divisor_24 : decode cX10_divisor 24 = .ok (.lload 8, 2) := by decide +kernel
theorem dX10_divisor_26 : decode cX10_divisor 26 = .ok (.lstore 6, 2) := by decide +kernel
theorem dX10_divisor_28 : decode cX10_divisor 28 = .ok (.goto (-22), 3) := by decide +kernel
theorem dX10_divisor_31 : decode cX10_divisor 31 = .ok (.lload 4, 2) := by decide +kernel
theorem dX10_divisor_33 : decode cX10_divisor 33 = .ok (.lreturn, 1) := by decide +kernel
set_option maxRecDepth 20000 in
theorem ggX10_fraction_X10_divisor : GoodIn wsX10_fraction wsX10_divisor := goodIn_r _ [4] (by decide +kernel) (by decide +kernel)
set_option maxRecDepth 20000 in
theorem gX10_fraction_X10_divisor : GoodIn wsX10_fraction (va_wsS RX10 184 yX10_divisor wsX10_divisor) := goodIn_app (goodIn_of _ (by decide +kernel)) ggX10_fraction_X10_divisor
theorem dX10_fraction_0 : decode cX10_fraction 0 = .ok (.lload_n 0, 1) := by decide +kernel
theorem dX10_fraction_1 : decode cX10_fraction 1 = .ok (.lload_n 2, 1) := by decide +kernel
theorem dX10_fraction_2 : decode cX10_fraction 2 = .ok (.invokestatic 184, 3) := by decide +kernel
theorem dX10_fraction_5 : decode cX10_fraction 5 = .ok (.lstore 5, 2) := by decide +kernel
theorem dX10_fraction_7 : decode cX10_fraction 7 = .ok (.iload 4, 2) := by decide +kernel
theorem dX10_fraction_9 : decode cX10_fraction 9 = .ok (.ifCond .eq 10, 3) := by decide +kernel
theorem dX10_fraction_12 : decode cX10_fraction 12 = .ok (.lload_n 0, 1) := by decide +kernel
theorem dX10_fraction_13 : decode cX10_fraction 13 = .ok (.lload 5, 2) := by decide +kernel
theorem dX10_fraction_15 : decode cX10_fraction 15 = .ok (.ldiv, 1) := by decide +kernel
theorem dX10_fraction_16 : decode cX10_fraction 16 = .ok (.goto 7, 3) := by decide +kernel
theorem dX10_fraction_19 : decode cX10_fraction 19 = .ok (.lload_n 2, 1) := by decide +kernel
theorem dX10_fraction_20 : decode cX10_fraction 20 = .ok (.lload 5, 2) := by decide +kernel
theorem dX10_fraction_22 : decode cX10_fraction 22 = .ok (.ldiv, 1) := by decide +kernel
theorem dX10_fraction_23 : decode cX10_fraction 23 = .ok (.lreturn, 1) := by decide +kernel
set_option maxRecDepth 20000 in
theorem ggX10_heard_X10_noRank : GoodIn wsX10_heard wsX10_noRank := goodIn_r _ [8, 9, 10, 11, 7, 12, 42, 43, 44, 45, 46, 47, 48, 49, 50, 51, 52, 53, 54, 55, 56, 57, 58, 59, 60, 61, 62, 63, 64, 65, 66, 67, 68, 69, 70, 71, 72] (by decide +kernel) (by decide +kernel)
set_option maxRecDepth 20000 in
theorem gX10_heard_X10_noRank : GoodIn wsX10_heard (wsV RX10 139 RX10 yX10_noRank wsX10_noRank) := goodIn_app (goodIn_of _ (by decide +kernel)) ggX10_heard_X10_noRank
set_option maxRecDepth 20000 in
theorem ggX10_heard_X10_noOrder : GoodIn wsX10_heard wsX10_noOrder := goodIn_r _ [15, 16, 10, 11, 7, 12] (by decide +kernel) (by decide +kernel)
set_option maxRecDepth 20000 in
theorem gX10_heard_X10_noOrder : GoodIn wsX10_heard (va_wsS RX10 104 yX10_noOrder wsX10_noOrder) := goodIn_app (goodIn_of _ (by decide +kernel)) ggX10_heard_X10_noOrder
set_option maxRecDepth 20000 in
theorem ggX10_heard_X10_layParts : GoodIn wsX10_heard wsX10_layParts := goodIn_r _ [20, 3, 21, 22, 23, 24, 7, 25, 26, 27, 28, 29, 30, 31, 42, 43, 44, 45, 46, 47, 48, 49, 50, 51, 52, 53, 54, 55, 56, 57, 58, 59, 60, 61, 62, 63, 64, 65, 66, 67, 68, 69, 70, 71, 72] (by decide +kernel) (by decide +kernel)
set_option maxRecDepth 20000 in
theorem gX10_heard_X10_layParts : GoodIn wsX10_heard (wsV RX10 190 RX10 yX10_layParts wsX10_layParts) := goodIn_app (goodIn_of _ (by decide +kernel)) ggX10_heard_X10_layParts
set_option maxRecDepth 20000 in
theorem ggX10_heard_X10_ten : GoodIn wsX10_heard wsX10_ten := goodIn_r _ [34, 35] (by decide +kernel) (by decide +kernel)
set_option maxRecDepth 20000 in
theorem gX10_heard_X10_ten : GoodIn wsX10_heard (va_wsS RX10 194 yX10_ten wsX10_ten) := goodIn_app (goodIn_of _ (by decide +kernel)) ggX10_heard_X10_ten
set_option maxRecDepth 20000 in
theorem ggX10_heard_X10_fraction : GoodIn wsX10_heard wsX10_fraction := goodIn_r _ [38, 39, 40, 7, 41] (by decide +kernel) (by decide +kernel)
set_option maxRecDepth 20000 in
theorem gX10_heard_X10_fraction : GoodIn wsX10_heard (va_wsS RX10 198 yX10_fraction wsX10_fraction) := goodIn_app (goodIn_of _ (by decide +kernel)) ggX10_heard_X10_fraction
theorem dX10_heard_0 : decode cX10_heard 0 = .ok (.aload_n 0, 1) := by decide +kernel
theorem dX10_heard_1 : decode cX10_heard 1 = .ok (.iconst 0, 1) := by decide +kernel
theorem dX10_heard_2 : decode cX10_heard 2 = .ok (.putfield 72, 3) := by decide +kernel
theorem dX10_heard_5 : decode cX10_heard 5 = .ok (.aload_n 0, 1) := by decide +kernel
theorem dX10_heard_6 : decode cX10_heard 6 = .ok (.iload_n 1, 1) := by decide +kernel
theorem dX10_heard_7 : decode cX10_heard 7 = .ok (.invokevirtual 139, 3) := by decide +kernel
theorem dX10_heard_10 : decode cX10_heard 10 = .ok (.ifCond .ne 17, 3) := by decide +kernel
theorem dX10_heard_13 : decode cX10_heard 13 = .ok (.iload_n 2, 1) := by decide +kernel
theorem dX10_heard_14 : decode cX10_heard 14 = .ok (.invokestatic 104, 3) := by decide +kernel
theorem dX10_heard_17 : decode cX10_heard 17 = .ok (.ifCond .ne 10, 3) := by decide +kernel
theorem dX10_heard_20 : decode cX10_heard 20 = .ok (.iload_n 3, 1) := by decide +kernel
theorem dX10_heard_21 : decode cX10_heard 21 = .ok (.invokestatic 104, 3) := by decide +kernel
theorem dX10_heard_24 : decode cX10_heard 24 = .ok (.ifCond .eq 7, 3) := by decide +kernel
theorem dX10_heard_27 : decode cX10_heard 27 = .ok (.ldc2_w 188, 3) := by decide +kernel
theorem dX10_heard_30 : decode cX10_heard 30 = .ok (.lreturn, 1) := by decide +kernel
theorem dX10_heard_31 : decode cX10_heard 31 = .ok (.aload_n 0, 1) := by decide +kernel
theorem dX10_heard_32 : decode cX10_heard 32 = .ok (.iconst 0, 1) := by decide +kernel
theorem dX10_heard_33 : decode cX10_heard 33 = .ok (.iload_n 1, 1) := by decide +kernel
theorem dX10_heard_34 : decode cX10_heard 34 = .ok (.iload_n 2, 1) := by decide +kernel
theorem dX10_heard_35 : decode cX10_heard 35 = .ok (.invokevirtual 190, 3) := by decide +kernel
theorem dX10_heard_38 : decode cX10_heard 38 = .ok (.aload_n 0, 1) := by decide +kernel
theorem dX10_heard_39 : decode cX10_heard 39 = .ok (.getfield 60, 3) := by decide +kernel
theorem dX10_heard_42 : decode cX10_heard 42 = .ok (.iload_n 3, 1) := by decide +kernel
theorem dX10_heard_43 : decode cX10_heard 43 = .ok (.laload, 1) := by decide +kernel
theorem dX10_heard_44 : decode cX10_heard 44 = .ok (.iload_n 1, 1) := by decide +kernel
theorem dX10_heard_45 : decode cX10_heard 45 = .ok (.invokestatic 194, 3) := by decide +kernel
theorem dX10_heard_48 : decode cX10_heard 48 = .ok (.iload 4, 2) := by decide +kernel
theorem dX10_heard_50 : decode cX10_heard 50 = .ok (.invokestatic 198, 3) := by decide +kernel
theorem dX10_heard_53 : decode cX10_heard 53 = .ok (.lreturn, 1) := by decide +kernel
set_option maxRecDepth 20000 in
theorem ggX10_comesOf_X10_layParts : GoodIn wsX10_comesOf wsX10_layParts := goodIn_r _ [6, 1, 7, 8, 9, 10, 5, 11, 12, 13, 14, 15, 16, 17, 18, 19, 20, 21, 22, 23, 24, 25, 26, 27, 28, 29, 30, 31, 32, 33, 34, 35, 36, 37, 38, 39, 40, 41, 42, 43, 44, 45, 46, 47, 48] (by decide +kernel) (by decide +kernel)
set_option maxRecDepth 20000 in
theorem gX10_comesOf_X10_layParts : GoodIn wsX10_comesOf (wsV RX10 190 RX10 yX10_layParts wsX10_layParts) := goodIn_app (goodIn_of _ (by decide +kernel)) ggX10_comesOf_X10_layParts
theorem dX10_comesOf_0 : decode cX10_comesOf 0 = .ok (.aload_n 0, 1) := by decide +kernel
theorem dX10_comesOf_1 : decode cX10_comesOf 1 = .ok (.iconst 0, 1) := by decide +kernel
theorem dX10_comesOf_2 : decode cX10_comesOf 2 = .ok (.iload_n 1, 1) := by decide +kernel
theorem dX10_comesOf_3 : decode cX10_comesOf 3 = .ok (.iload_n 2, 1) := by decide +kernel
theorem dX10_comesOf_4 : decode cX10_comesOf 4 = .ok (.invokevirtual 190, 3) := by decide +kernel
theorem dX10_comesOf_7 : decode cX10_comesOf 7 = .ok (.iconst 0, 1) := by decide +kernel
theorem dX10_comesOf_8 : decode cX10_comesOf 8 = .ok (.istore_n 3, 1) := by decide +kernel
theorem dX10_comesOf_9 : decode cX10_comesOf 9 = .ok (.iconst 0, 1) := by decide +kernel
theorem dX10_comesOf_10 : decode cX10_comesOf 10 = .ok (.istore 4, 2) := by decide +kernel
theorem dX10_comesOf_12 : decode cX10_comesOf 12 = .ok (.iload 4, 2) := by decide +kernel
theorem dX10_comesOf_14 : decode cX10_comesOf 14 = .ok (.iconst 5, 1) := by decide +kernel
theorem dX10_comesOf_15 : decode cX10_comesOf 15 = .ok (.if_icmp .ge 32, 3) := by decide +kernel
theorem dX10_comesOf_18 : decode cX10_comesOf 18 = .ok (.iload_n 3, 1) := by decide +kernel
theorem dX10_comesOf_19 : decode cX10_comesOf 19 = .ok (.aload_n 0, 1) := by decide +kernel
theorem dX10_comesOf_20 : decode cX10_comesOf 20 = .ok (.getfield 60, 3) := by decide +kernel
theorem dX10_comesOf_23 : decode cX10_comesOf 23 = .ok (.iload 4, 2) := by decide +kernel
theorem dX10_comesOf_25 : decode cX10_comesOf 25 = .ok (.laload, 1) := by decide +kernel
theorem dX10_comesOf_26 : decode cX10_comesOf 26 = .ok (.lconst 0, 1) := by decide +kernel
theorem dX10_comesOf_27 : decode cX10_comesOf 27 = .ok (.lcmp, 1) := by decide +kernel
theorem dX10_comesOf_28 : decode cX10_comesOf 28 = .ok (.ifCond .le 10, 3) := by decide +kernel
theorem dX10_comesOf_31 : decode cX10_comesOf 31 = .ok (.iconst 1, 1) := by decide +kernel
theorem dX10_comesOf_32 : decode cX10_comesOf 32 = .ok (.iload 4, 2) := by decide +kernel
theorem dX10_comesOf_34 : decode cX10_comesOf 34 = .ok (.ishl, 1) := by decide +kernel
theorem dX10_comesOf_35 : decode cX10_comesOf 35 = .ok (.goto 4, 3) := by decide +kernel
theorem dX10_comesOf_38 : decode cX10_comesOf 38 = .ok (.iconst 0, 1) := by decide +kernel
theorem dX10_comesOf_39 : decode cX10_comesOf 39 = .ok (.ior, 1) := by decide +kernel
theorem dX10_comesOf_40 : decode cX10_comesOf 40 = .ok (.istore_n 3, 1) := by decide +kernel
theorem dX10_comesOf_41 : decode cX10_comesOf 41 = .ok (.iinc 4 1, 3) := by decide +kernel
theorem dX10_comesOf_44 : decode cX10_comesOf 44 = .ok (.goto (-32), 3) := by decide +kernel
theorem dX10_comesOf_47 : decode cX10_comesOf 47 = .ok (.iload_n 3, 1) := by decide +kernel
theorem dX10_comesOf_48 : decode cX10_comesOf 48 = .ok (.ireturn, 1) := by decide +kernel
set_option maxRecDepth 20000 in
theorem ggX10_comes_X10_noRank : GoodIn wsX10_comes wsX10_noRank := goodIn_r _ [6, 7, 8, 9, 5, 10, 35, 36, 37, 38, 39, 40, 41, 42, 43, 44, 45, 46, 47, 48, 49, 50, 51, 52, 53, 54, 55, 56, 57, 58, 59, 60, 61, 62, 63, 64, 65] (by decide +kernel) (by decide +kernel)
set_option maxRecDepth 20000 in
theorem gX10_comes_X10_noRank : GoodIn wsX10_comes (wsV RX10 139 RX10 yX10_noRank wsX10_noRank) := goodIn_app (goodIn_of _ (by decide +kernel)) ggX10_comes_X10_noRank
set_option maxRecDepth 20000 in
theorem ggX10_comes_X10_noOrder : GoodIn wsX10_comes wsX10_noOrder := goodIn_r _ [13, 14, 8, 9, 5, 10] (by decide +kernel) (by decide +kernel)
set_option maxRecDepth 20000 in
theorem gX10_comes_X10_noOrder : GoodIn wsX10_comes (va_wsS RX10 104 yX10_noOrder wsX10_noOrder) := goodIn_app (goodIn_of _ (by decide +kernel)) ggX10_comes_X10_noOrder
set_option maxRecDepth 20000 in
theorem ggX10_comes_X10_comesOf : GoodIn wsX10_comes wsX10_comesOf := goodIn_r _ [18, 19, 20, 21, 22, 5, 23, 24, 25, 26, 27, 28, 29, 30, 31, 32, 33, 34, 35, 36, 37, 38, 39, 40, 41, 42, 43, 44, 45, 46, 47, 48, 49, 50, 51, 52, 53, 54, 55, 56, 57, 58, 59, 60, 61, 62, 63, 64, 65] (by decide +kernel) (by decide +kernel)
set_option maxRecDepth 20000 in
theorem gX10_comes_X10_comesOf : GoodIn wsX10_comes (wsV RX10 202 RX10 yX10_comesOf wsX10_comesOf) := goodIn_app (goodIn_of _ (by decide +kernel)) ggX10_comes_X10_comesOf
theorem dX10_comes_0 : decode cX10_comes 0 = .ok (.aload_n 0, 1) := by decide +kernel
theorem dX10_comes_1 : decode cX10_comes 1 = .ok (.iconst 0, 1) := by decide +kernel
theorem dX10_comes_2 : decode cX10_comes 2 = .ok (.putfield 72, 3) := by decide +kernel
theorem dX10_comes_5 : decode cX10_comes 5 = .ok (.aload_n 0, 1) := by decide +kernel
theorem dX10_comes_6 : decode cX10_comes 6 = .ok (.iload_n 1, 1) := by decide +kernel
theorem dX10_comes_7 : decode cX10_comes 7 = .ok (.invokevirtual 139, 3) := by decide +kernel
theorem dX10_comes_10 : decode cX10_comes 10 = .ok (.ifCond .ne 10, 3) := by decide +kernel
theorem dX10_comes_13 : decode cX10_comes 13 = .ok (.iload_n 2, 1) := by decide +kernel
theorem dX10_comes_14 : decode cX10_comes 14 = .ok (.invokestatic 104, 3) := by decide +kernel
theorem dX10_comes_17 : decode cX10_comes 17 = .ok (.ifCond .eq 7, 3) := by decide +kernel
theorem dX10_comes_20 : decode cX10_comes 20 = .ok (.iconst (-1), 1) := by decide +kernel
theorem dX10_comes_21 : decode cX10_comes 21 = .ok (.goto 9, 3) := by decide +kernel
theorem dX10_comes_24 : decode cX10_comes 24 = .ok (.aload_n 0, 1) := by decide +kernel
theorem dX10_comes_25 : decode cX10_comes 25 = .ok (.iload_n 1, 1) := by decide +kernel
theorem dX10_comes_26 : decode cX10_comes 26 = .ok (.iload_n 2, 1) := by decide +kernel
theorem dX10_comes_27 : decode cX10_comes 27 = .ok (.invokevirtual 202, 3) := by decide +kernel
theorem dX10_comes_30 : decode cX10_comes 30 = .ok (.ireturn, 1) := by decide +kernel
set_option maxRecDepth 20000 in
theorem ggX10_sure_X10_noRank : GoodIn wsX10_sure wsX10_noRank := goodIn_r _ [6, 7, 8, 9, 5, 10, 31, 32, 33, 34, 35, 36, 37, 38, 39, 40, 41, 42, 43, 44, 45, 46, 47, 48, 49, 50, 51, 52, 53, 54, 55, 56, 57, 58, 59, 60, 61] (by decide +kernel) (by decide +kernel)
set_option maxRecDepth 20000 in
theorem gX10_sure_X10_noRank : GoodIn wsX10_sure (wsV RX10 139 RX10 yX10_noRank wsX10_noRank) := goodIn_app (goodIn_of _ (by decide +kernel)) ggX10_sure_X10_noRank
set_option maxRecDepth 20000 in
theorem ggX10_sure_X10_comesOf : GoodIn wsX10_sure wsX10_comesOf := goodIn_r _ [14, 15, 16, 17, 18, 5, 19, 20, 21, 22, 23, 24, 25, 26, 27, 28, 29, 30, 31, 32, 33, 34, 35, 36, 37, 38, 39, 40, 41, 42, 43, 44, 45, 46, 47, 48, 49, 50, 51, 52, 53, 54, 55, 56, 57, 58, 59, 60, 61] (by decide +kernel) (by decide +kernel)
set_option maxRecDepth 20000 in
theorem gX10_sure_X10_comesOf : GoodIn wsX10_sure (wsV RX10 202 RX10 yX10_comesOf wsX10_comesOf) := goodIn_app (goodIn_of _ (by decide +kernel)) ggX10_sure_X10_comesOf
theorem dX10_sure_0 : decode cX10_sure 0 = .ok (.aload_n 0, 1) := by decide +kernel
theorem dX10_sure_1 : decode cX10_sure 1 = .ok (.iconst 0, 1) := by decide +kernel
theorem dX10_sure_2 : decode cX10_sure 2 = .ok (.putfield 72, 3) := by decide +kernel
theorem dX10_sure_5 : decode cX10_sure 5 = .ok (.aload_n 0, 1) := by decide +kernel
theorem dX10_sure_6 : decode cX10_sure 6 = .ok (.iload_n 1, 1) := by decide +kernel
theorem dX10_sure_7 : decode cX10_sure 7 = .ok (.invokevirtual 139, 3) := by decide +kernel
theorem dX10_sure_10 : decode cX10_sure 10 = .ok (.ifCond .eq 5, 3) := by decide +kernel
theorem dX10_sure_13 : decode cX10_sure 13 = .ok (.iconst (-1), 1) := by decide +kernel
theorem dX10_sure_14 : decode cX10_sure 14 = .ok (.ireturn, 1) := by decide +kernel
theorem dX10_sure_15 : decode cX10_sure 15 = .ok (.iconst 0, 1) := by decide +kernel
theorem dX10_sure_16 : decode cX10_sure 16 = .ok (.istore_n 2, 1) := by decide +kernel
theorem dX10_sure_17 : decode cX10_sure 17 = .ok (.iconst 0, 1) := by decide +kernel
theorem dX10_sure_18 : decode cX10_sure 18 = .ok (.istore_n 3, 1) := by decide +kernel
theorem dX10_sure_19 : decode cX10_sure 19 = .ok (.iload_n 3, 1) := by decide +kernel
theorem dX10_sure_20 : decode cX10_sure 20 = .ok (.iconst 5, 1) := by decide +kernel
theorem dX10_sure_21 : decode cX10_sure 21 = .ok (.if_icmp .ge 31, 3) := by decide +kernel
theorem dX10_sure_24 : decode cX10_sure 24 = .ok (.iload_n 2, 1) := by decide +kernel
theorem dX10_sure_25 : decode cX10_sure 25 = .ok (.aload_n 0, 1) := by decide +kernel
theorem dX10_sure_26 : decode cX10_sure 26 = .ok (.iload_n 1, 1) := by decide +kernel
theorem dX10_sure_27 : decode cX10_sure 27 = .ok (.iload_n 3, 1) := by decide +kernel
theorem dX10_sure_28 : decode cX10_sure 28 = .ok (.invokevirtual 202, 3) := by decide +kernel
theorem dX10_sure_31 : decode cX10_sure 31 = .ok (.iconst 1, 1) := by decide +kernel
theorem dX10_sure_32 : decode cX10_sure 32 = .ok (.iload_n 3, 1) := by decide +kernel
theorem dX10_sure_33 : decode cX10_sure 33 = .ok (.ishl, 1) := by decide +kernel
theorem dX10_sure_34 : decode cX10_sure 34 = .ok (.if_icmp .ne 9, 3) := by decide +kernel
theorem dX10_sure_37 : decode cX10_sure 37 = .ok (.iconst 1, 1) := by decide +kernel
theorem dX10_sure_38 : decode cX10_sure 38 = .ok (.iload_n 3, 1) := by decide +kernel
theorem dX10_sure_39 : decode cX10_sure 39 = .ok (.ishl, 1) := by decide +kernel
theorem dX10_sure_40 : decode cX10_sure 40 = .ok (.goto 4, 3) := by decide +kernel
theorem dX10_sure_43 : decode cX10_sure 43 = .ok (.iconst 0, 1) := by decide +kernel
theorem dX10_sure_44 : decode cX10_sure 44 = .ok (.ior, 1) := by decide +kernel
theorem dX10_sure_45 : decode cX10_sure 45 = .ok (.istore_n 2, 1) := by decide +kernel
theorem dX10_sure_46 : decode cX10_sure 46 = .ok (.iinc 3 1, 3) := by decide +kernel
theorem dX10_sure_49 : decode cX10_sure 49 = .ok (.goto (-30), 3) := by decide +kernel
theorem dX10_sure_52 : decode cX10_sure 52 = .ok (.iload_n 2, 1) := by decide +kernel
theorem dX10_sure_53 : decode cX10_sure 53 = .ok (.ireturn, 1) := by decide +kernel
theorem dX10_many_0 : decode cX10_many 0 = .ok (.iconst 0, 1) := by decide +kernel
theorem dX10_many_1 : decode cX10_many 1 = .ok (.istore_n 1, 1) := by decide +kernel
theorem dX10_many_2 : decode cX10_many 2 = .ok (.iconst 0, 1) := by decide +kernel
theorem dX10_many_3 : decode cX10_many 3 = .ok (.istore_n 2, 1) := by decide +kernel
theorem dX10_many_4 : decode cX10_many 4 = .ok (.iload_n 2, 1) := by decide +kernel
theorem dX10_many_5 : decode cX10_many 5 = .ok (.iconst 5, 1) := by decide +kernel
theorem dX10_many_6 : decode cX10_many 6 = .ok (.if_icmp .ge 17, 3) := by decide +kernel
theorem dX10_many_9 : decode cX10_many 9 = .ok (.iload_n 1, 1) := by decide +kernel
theorem dX10_many_10 : decode cX10_many 10 = .ok (.iload_n 0, 1) := by decide +kernel
theorem dX10_many_11 : decode cX10_many 11 = .ok (.iload_n 2, 1) := by decide +kernel
theorem dX10_many_12 : decode cX10_many 12 = .ok (.ishr, 1) := by decide +kernel
theorem dX10_many_13 : decode cX10_many 13 = .ok (.iconst 1, 1) := by decide +kernel
theorem dX10_many_14 : decode cX10_many 14 = .ok (.iand, 1) := by decide +kernel
theorem dX10_many_15 : decode cX10_many 15 = .ok (.iadd, 1) := by decide +kernel
theorem dX10_many_16 : decode cX10_many 16 = .ok (.istore_n 1, 1) := by decide +kernel
theorem dX10_many_17 : decode cX10_many 17 = .ok (.iinc 2 1, 3) := by decide +kernel
theorem dX10_many_20 : decode cX10_many 20 = .ok (.goto (-16), 3) := by decide +kernel
theorem dX10_many_23 : decode cX10_many 23 = .ok (.iload_n 1, 1) := by decide +kernel
theorem dX10_many_24 : decode cX10_many 24 = .ok (.ireturn, 1) := by decide +kernel
set_option maxRecDepth 20000 in
theorem ggX10_code_X10_noRank : GoodIn wsX10_code wsX10_noRank := goodIn_r _ [6, 7, 8, 9, 5, 10, 37, 38, 39, 40, 41, 42, 43, 44, 45, 46, 47, 48, 49, 50, 51, 52, 53, 54, 55, 56, 57, 58, 59, 60, 61, 62, 63, 64, 65, 66, 67] (by decide +kernel) (by decide +kernel)
set_option maxRecDepth 20000 in
theorem gX10_code_X10_noRank : GoodIn wsX10_code (wsV RX10 139 RX10 yX10_noRank wsX10_noRank) := goodIn_app (goodIn_of _ (by decide +kernel)) ggX10_code_X10_noRank
set_option maxRecDepth 20000 in
theorem ggX10_code_X10_has : GoodIn wsX10_code wsX10_has := goodIn_r _ [13] (by decide +kernel) (by decide +kernel)
set_option maxRecDepth 20000 in
theorem gX10_code_X10_has : GoodIn wsX10_code (va_wsS RX10 205 yX10_has wsX10_has) := goodIn_app (goodIn_of _ (by decide +kernel)) ggX10_code_X10_has
set_option maxRecDepth 20000 in
theorem ggX10_code_X10_comesOf : GoodIn wsX10_code wsX10_comesOf := goodIn_r _ [17, 18, 19, 20, 21, 5, 22, 23, 24, 25, 26, 27, 28, 29, 30, 31, 32, 33, 37, 38, 39, 40, 41, 42, 43, 44, 45, 46, 47, 48, 49, 50, 51, 52, 53, 54, 55, 56, 57, 58, 59, 60, 61, 62, 63, 64, 65, 66, 67] (by decide +kernel) (by decide +kernel)
set_option maxRecDepth 20000 in
theorem gX10_code_X10_comesOf : GoodIn wsX10_code (wsV RX10 202 RX10 yX10_comesOf wsX10_comesOf) := goodIn_app (goodIn_of _ (by decide +kernel)) ggX10_code_X10_comesOf
set_option maxRecDepth 20000 in
theorem ggX10_code_X10_many : GoodIn wsX10_code wsX10_many := goodIn_r _ [36] (by decide +kernel) (by decide +kernel)
set_option maxRecDepth 20000 in
theorem gX10_code_X10_many : GoodIn wsX10_code (va_wsS RX10 209 yX10_many wsX10_many) := goodIn_app (goodIn_of _ (by decide +kernel)) ggX10_code_X10_many
theorem dX10_code_0 : decode cX10_code 0 = .ok (.aload_n 0, 1) := by decide +kernel
theorem dX10_code_1 : decode cX10_code 1 = .ok (.iconst 0, 1) := by decide +kernel
theorem dX10_code_2 : decode cX10_code 2 = .ok (.putfield 72, 3) := by decide +kernel
theorem dX10_code_5 : decode cX10_code 5 = .ok (.aload_n 0, 1) := by decide +kernel
theorem dX10_code_6 : decode cX10_code 6 = .ok (.iload_n 1, 1) := by decide +kernel
theorem dX10_code_7 : decode cX10_code 7 = .ok (.invokevirtual 139, 3) := by decide +kernel
theorem dX10_code_10 : decode cX10_code 10 = .ok (.ifCond .eq 5, 3) := by decide +kernel
theorem dX10_code_13 : decode cX10_code 13 = .ok (.iconst (-1), 1) := by decide +kernel
theorem dX10_code_14 : decode cX10_code 14 = .ok (.ireturn, 1) := by decide +kernel
theorem dX10_code_15 : decode cX10_code 15 = .ok (.iconst 0, 1) := by decide +kernel
theorem dX10_code_16 : decode cX10_code 16 = .ok (.istore_n 2, 1) := by decide +kernel
theorem dX10_code_17 : decode cX10_code 17 = .ok (.iconst 1, 1) := by decide +kernel
theorem dX10_code_18 : decode cX10_code 18 = .ok (.istore_n 3, 1) := by decide +kernel
theorem dX10_code_19 : decode cX10_code 19 = .ok (.iload_n 3, 1) := by decide +kernel
theorem dX10_code_20 : decode cX10_code 20 = .ok (.bipush 32, 2) := by decide +kernel
theorem dX10_code_22 : decode cX10_code 22 = .ok (.if_icmp .ge 98, 3) := by decide +kernel
theorem dX10_code_25 : decode cX10_code 25 = .ok (.iconst 0, 1) := by decide +kernel
theorem dX10_code_26 : decode cX10_code 26 = .ok (.istore 4, 2) := by decide +kernel
theorem dX10_code_28 : decode cX10_code 28 = .ok (.iconst 1, 1) := by decide +kernel
theorem dX10_code_29 : decode cX10_code 29 = .ok (.istore 5, 2) := by decide +kernel
theorem dX10_code_31 : decode cX10_code 31 = .ok (.iconst 0, 1) := by decide +kernel
theorem dX10_code_32 : decode cX10_code 32 = .ok (.istore 6, 2) := by decide +kernel
theorem dX10_code_34 : decode cX10_code 34 = .ok (.iload 6, 2) := by decide +kernel
theorem dX10_code_36 : decode cX10_code 36 = .ok (.iconst 5, 1) := by decide +kernel
theorem dX10_code_37 : decode cX10_code 37 = .ok (.if_icmp .ge 55, 3) := by decide +kernel
theorem dX10_code_40 : decode cX10_code 40 = .ok (.iload_n 3, 1) := by decide +kernel
theorem dX10_code_41 : decode cX10_code 41 = .ok (.iload 6, 2) := by decide +kernel
theorem dX10_code_43 : decode cX10_code 43 = .ok (.invokestatic 205, 3) := by decide +kernel
theorem dX10_code_46 : decode cX10_code 46 = .ok (.ifCond .eq 40, 3) := by decide +kernel
theorem dX10_code_49 : decode cX10_code 49 = .ok (.iload 5, 2) := by decide +kernel
theorem dX10_code_51 : decode cX10_code 51 = .ok (.ifCond .eq 20, 3) := by decide +kernel
theorem dX10_code_54 : decode cX10_code 54 = .ok (.iload 4, 2) := by decide +kernel
theorem dX10_code_56 : decode cX10_code 56 = .ok (.aload_n 0, 1) := by decide +kernel
theorem dX10_code_57 : decode cX10_code 57 = .ok (.iload_n 1, 1) := by decide +kernel
theorem dX10_code_58 : decode cX10_code 58 = .ok (.iload 6, 2) := by decide +kernel
theorem dX10_code_60 : decode cX10_code 60 = .ok (.invokevirtual 202, 3) := by decide +kernel
theorem dX10_code_63 : decode cX10_code 63 = .ok (.iand, 1) := by decide +kernel
theorem dX10_code_64 : decode cX10_code 64 = .ok (.ifCond .ne 7, 3) := by decide +kernel
theorem dX10_code_67 : decode cX10_code 67 = .ok (.iconst 1, 1) := by decide +kernel
theorem dX10_code_68 : decode cX10_code 68 = .ok (.goto 4, 3) := by decide +kernel
theorem dX10_code_71 : decode cX10_code 71 = .ok (.iconst 0, 1) := by decide +kernel
theorem dX10_code_72 : decode cX10_code 72 = .ok (.istore 5, 2) := by decide +kernel
theorem dX10_code_74 : decode cX10_code 74 = .ok (.iload 4, 2) := by decide +kernel
theorem dX10_code_76 : decode cX10_code 76 = .ok (.aload_n 0, 1) := by decide +kernel
theorem dX10_code_77 : decode cX10_code 77 = .ok (.iload_n 1, 1) := by decide +kernel
theorem dX10_code_78 : decode cX10_code 78 = .ok (.iload 6, 2) := by decide +kernel
theorem dX10_code_80 : decode cX10_code 80 = .ok (.invokevirtual 202, 3) := by decide +kernel
theorem dX10_code_83 : decode cX10_code 83 = .ok (.ior, 1) := by decide +kernel
theorem dX10_code_84 : decode cX10_code 84 = .ok (.istore 4, 2) := by decide +kernel
theorem dX10_code_86 : decode cX10_code 86 = .ok (.iinc 6 1, 3) := by decide +kernel
theorem dX10_code_89 : decode cX10_code 89 = .ok (.goto (-55), 3) := by decide +kernel
theorem dX10_code_92 : decode cX10_code 92 = .ok (.iload 5, 2) := by decide +kernel
theorem dX10_code_94 : decode cX10_code 94 = .ok (.ifCond .eq 18, 3) := by decide +kernel
theorem dX10_code_97 : decode cX10_code 97 = .ok (.iload_n 3, 1) := by decide +kernel
theorem dX10_code_98 : decode cX10_code 98 = .ok (.invokestatic 209, 3) := by decide +kernel
theorem dX10_code_101 : decode cX10_code 101 = .ok (.iload_n 2, 1) := by decide +kernel
theorem dX10_code_102 : decode cX10_code 102 = .ok (.invokestatic 209, 3) := by decide +kernel
theorem dX10_code_105 : decode cX10_code 105 = .ok (.if_icmp .le 7, 3) := by decide +kernel
theorem dX10_code_108 : decode cX10_code 108 = .ok (.iload_n 3, 1) := by decide +kernel
theorem dX10_code_109 : decode cX10_code 109 = .ok (.goto 4, 3) := by decide +kernel
theorem dX10_code_112 : decode cX10_code 112 = .ok (.iload_n 2, 1) := by decide +kernel
theorem dX10_code_113 : decode cX10_code 113 = .ok (.istore_n 2, 1) := by decide +kernel
theorem dX10_code_114 : decode cX10_code 114 = .ok (.iinc 3 1, 3) := by decide +kernel
theorem dX10_code_117 : decode cX10_code 117 = .ok (.goto (-98), 3) := by decide +kernel
theorem dX10_code_120 : decode cX10_code 120 = .ok (.iload_n 2, 1) := by decide +kernel
theorem dX10_code_121 : decode cX10_code 121 = .ok (.ireturn, 1) := by decide +kernel
set_option maxRecDepth 20000 in
theorem ggX10_twoOfThree_X10_noRank : GoodIn wsX10_twoOfThree wsX10_noRank := goodIn_r _ [10, 11, 12, 13, 9, 14, 44, 45, 46, 47, 48, 49, 50, 51, 52, 53, 54, 55, 56, 57, 58, 59, 60, 61, 62, 63, 64, 65, 66, 67, 68, 69, 70, 71, 72, 73, 74] (by decide +kernel) (by decide +kernel)
set_option maxRecDepth 20000 in
theorem gX10_twoOfThree_X10_noRank : GoodIn wsX10_twoOfThree (wsV RX10 139 RX10 yX10_noRank wsX10_noRank) := goodIn_app (goodIn_of _ (by decide +kernel)) ggX10_twoOfThree_X10_noRank
set_option maxRecDepth 20000 in
theorem ggX10_twoOfThree_X10_noOrder : GoodIn wsX10_twoOfThree wsX10_noOrder := goodIn_r _ [17, 18, 12, 13, 9, 14] (by decide +kernel) (by decide +kernel)
set_option maxRecDepth 20000 in
theorem gX10_twoOfThree_X10_noOrder : GoodIn wsX10_twoOfThree (va_wsS RX10 104 yX10_noOrder wsX10_noOrder) := goodIn_app (goodIn_of _ (by decide +kernel)) ggX10_twoOfThree_X10_noOrder
set_option maxRecDepth 20000 in
theorem ggX10_twoOfThree_X10_layParts : GoodIn wsX10_twoOfThree wsX10_layParts := goodIn_r _ [22, 3, 23, 24, 25, 26, 9, 27, 28, 29, 30, 31, 32, 33, 44, 45, 46, 47, 48, 49, 50, 51, 52, 53, 54, 55, 56, 57, 58, 59, 60, 61, 62, 63, 64, 65, 66, 67, 68, 69, 70, 71, 72, 73, 74] (by decide +kernel) (by decide +kernel)
set_option maxRecDepth 20000 in
theorem gX10_twoOfThree_X10_layParts : GoodIn wsX10_twoOfThree (wsV RX10 190 RX10 yX10_layParts wsX10_layParts) := goodIn_app (goodIn_of _ (by decide +kernel)) ggX10_twoOfThree_X10_layParts
set_option maxRecDepth 20000 in
theorem ggX10_twoOfThree_X10_ten : GoodIn wsX10_twoOfThree wsX10_ten := goodIn_r _ [36, 37] (by decide +kernel) (by decide +kernel)
set_option maxRecDepth 20000 in
theorem gX10_twoOfThree_X10_ten : GoodIn wsX10_twoOfThree (va_wsS RX10 194 yX10_ten wsX10_ten) := goodIn_app (goodIn_of _ (by decide +kernel)) ggX10_twoOfThree_X10_ten
set_option maxRecDepth 20000 in
theorem ggX10_twoOfThree_X10_fraction : GoodIn wsX10_twoOfThree wsX10_fraction := goodIn_r _ [40, 41, 42, 9, 43] (by decide +kernel) (by decide +kernel)
set_option maxRecDepth 20000 in
theorem gX10_twoOfThree_X10_fraction : GoodIn wsX10_twoOfThree (va_wsS RX10 198 yX10_fraction wsX10_fraction) := goodIn_app (goodIn_of _ (by decide +kernel)) ggX10_twoOfThree_X10_fraction
theorem dX10_twoOfThree_0 : decode cX10_twoOfThree 0 = .ok (.aload_n 0, 1) := by decide +kernel
theorem dX10_twoOfThree_1 : decode cX10_twoOfThree 1 = .ok (.iconst 0, 1) := by decide +kernel
theorem dX10_twoOfThree_2 : decode cX10_twoOfThree 2 = .ok (.putfield 72, 3) := by decide +kernel
theorem dX10_twoOfThree_5 : decode cX10_twoOfThree 5 = .ok (.aload_n 0, 1) := by decide +kernel
theorem dX10_twoOfThree_6 : decode cX10_twoOfThree 6 = .ok (.iload_n 1, 1) := by decide +kernel
theorem dX10_twoOfThree_7 : decode cX10_twoOfThree 7 = .ok (.invokevirtual 139, 3) := by decide +kernel
theorem dX10_twoOfThree_10 : decode cX10_twoOfThree 10 = .ok (.ifCond .ne 10, 3) := by decide +kernel
theorem dX10_twoOfThree_13 : decode cX10_twoOfThree 13 = .ok (.iload_n 2, 1) := by decide +kernel
theorem dX10_twoOfThree_14 : decode cX10_twoOfThree 14 = .ok (.invokestatic 104, 3) := by decide +kernel
theorem dX10_twoOfThree_17 : decode cX10_twoOfThree 17 = .ok (.ifCond .eq 7, 3) := by decide +kernel
theorem dX10_twoOfThree_20 : decode cX10_twoOfThree 20 = .ok (.ldc2_w 188, 3) := by decide +kernel
theorem dX10_twoOfThree_23 : decode cX10_twoOfThree 23 = .ok (.lreturn, 1) := by decide +kernel
theorem dX10_twoOfThree_24 : decode cX10_twoOfThree 24 = .ok (.aload_n 0, 1) := by decide +kernel
theorem dX10_twoOfThree_25 : decode cX10_twoOfThree 25 = .ok (.iconst 0, 1) := by decide +kernel
theorem dX10_twoOfThree_26 : decode cX10_twoOfThree 26 = .ok (.iload_n 1, 1) := by decide +kernel
theorem dX10_twoOfThree_27 : decode cX10_twoOfThree 27 = .ok (.iload_n 2, 1) := by decide +kernel
theorem dX10_twoOfThree_28 : decode cX10_twoOfThree 28 = .ok (.invokevirtual 190, 3) := by decide +kernel
theorem dX10_twoOfThree_31 : decode cX10_twoOfThree 31 = .ok (.aload_n 0, 1) := by decide +kernel
theorem dX10_twoOfThree_32 : decode cX10_twoOfThree 32 = .ok (.getfield 60, 3) := by decide +kernel
theorem dX10_twoOfThree_35 : decode cX10_twoOfThree 35 = .ok (.iload_n 2, 1) := by decide +kernel
theorem dX10_twoOfThree_36 : decode cX10_twoOfThree 36 = .ok (.laload, 1) := by decide +kernel
theorem dX10_twoOfThree_37 : decode cX10_twoOfThree 37 = .ok (.lstore 4, 2) := by decide +kernel
theorem dX10_twoOfThree_39 : decode cX10_twoOfThree 39 = .ok (.iload_n 1, 1) := by decide +kernel
theorem dX10_twoOfThree_40 : decode cX10_twoOfThree 40 = .ok (.invokestatic 194, 3) := by decide +kernel
theorem dX10_twoOfThree_43 : decode cX10_twoOfThree 43 = .ok (.lstore 6, 2) := by decide +kernel
theorem dX10_twoOfThree_45 : decode cX10_twoOfThree 45 = .ok (.lload 4, 2) := by decide +kernel
theorem dX10_twoOfThree_47 : decode cX10_twoOfThree 47 = .ok (.lload 4, 2) := by decide +kernel
theorem dX10_twoOfThree_49 : decode cX10_twoOfThree 49 = .ok (.lmul, 1) := by decide +kernel
theorem dX10_twoOfThree_50 : decode cX10_twoOfThree 50 = .ok (.ldc2_w 213, 3) := by decide +kernel
theorem dX10_twoOfThree_53 : decode cX10_twoOfThree 53 = .ok (.lload 6, 2) := by decide +kernel
theorem dX10_twoOfThree_55 : decode cX10_twoOfThree 55 = .ok (.lmul, 1) := by decide +kernel
theorem dX10_twoOfThree_56 : decode cX10_twoOfThree 56 = .ok (.ldc2_w 215, 3) := by decide +kernel
theorem dX10_twoOfThree_59 : decode cX10_twoOfThree 59 = .ok (.lload 4, 2) := by decide +kernel
theorem dX10_twoOfThree_61 : decode cX10_twoOfThree 61 = .ok (.lmul, 1) := by decide +kernel
theorem dX10_twoOfThree_62 : decode cX10_twoOfThree 62 = .ok (.lsub, 1) := by decide +kernel
theorem dX10_twoOfThree_63 : decode cX10_twoOfThree 63 = .ok (.lmul, 1) := by decide +kernel
theorem dX10_twoOfThree_64 : decode cX10_twoOfThree 64 = .ok (.lload 6, 2) := by decide +kernel
theorem dX10_twoOfThree_66 : decode cX10_twoOfThree 66 = .ok (.lload 6, 2) := by decide +kernel
theorem dX10_twoOfThree_68 : decode cX10_twoOfThree 68 = .ok (.lmul, 1) := by decide +kernel
theorem dX10_twoOfThree_69 : decode cX10_twoOfThree 69 = .ok (.lload 6, 2) := by decide +kernel
theorem dX10_twoOfThree_71 : decode cX10_twoOfThree 71 = .ok (.lmul, 1) := by decide +kernel
theorem dX10_twoOfThree_72 : decode cX10_twoOfThree 72 = .ok (.iload_n 3, 1) := by decide +kernel
theorem dX10_twoOfThree_73 : decode cX10_twoOfThree 73 = .ok (.invokestatic 198, 3) := by decide +kernel
theorem dX10_twoOfThree_76 : decode cX10_twoOfThree 76 = .ok (.lreturn, 1) := by decide +kernel
set_option maxRecDepth 20000 in
theorem ggX10_help_X10_noOrder : GoodIn wsX10_help wsX10_noOrder := goodIn_r _ [8, 9, 10, 11, 7, 12] (by decide +kernel) (by decide +kernel)
set_option maxRecDepth 20000 in
theorem gX10_help_X10_noOrder : GoodIn wsX10_help (va_wsS RX10 104 yX10_noOrder wsX10_noOrder) := goodIn_app (goodIn_of _ (by decide +kernel)) ggX10_help_X10_noOrder
set_option maxRecDepth 20000 in
theorem ggX10_help_X10_layParts : GoodIn wsX10_help wsX10_layParts := goodIn_r _ [16, 4, 17, 18, 19, 20, 7, 21, 22, 23, 24, 25, 26, 27, 32, 33, 34, 35, 36, 37, 38, 39, 40, 41, 42, 43, 44, 45, 46, 47, 48, 49, 50, 51, 52, 53, 54, 55, 56, 57, 58, 59, 60, 61, 62] (by decide +kernel) (by decide +kernel)
set_option maxRecDepth 20000 in
theorem gX10_help_X10_layParts : GoodIn wsX10_help (wsV RX10 190 RX10 yX10_layParts wsX10_layParts) := goodIn_app (goodIn_of _ (by decide +kernel)) ggX10_help_X10_layParts
set_option maxRecDepth 20000 in
theorem ggX10_help_X10_ten : GoodIn wsX10_help wsX10_ten := goodIn_r _ [30, 31] (by decide +kernel) (by decide +kernel)
set_option maxRecDepth 20000 in
theorem gX10_help_X10_ten : GoodIn wsX10_help (va_wsS RX10 194 yX10_ten wsX10_ten) := goodIn_app (goodIn_of _ (by decide +kernel)) ggX10_help_X10_ten
theorem dX10_help_0 : decode cX10_help 0 = .ok (.aload_n 0, 1) := by decide +kernel
theorem dX10_help_1 : decode cX10_help 1 = .ok (.iconst 0, 1) := by decide +kernel
theorem dX10_help_2 : decode cX10_help 2 = .ok (.putfield 72, 3) := by decide +kernel
theorem dX10_help_5 : decode cX10_help 5 = .ok (.iload_n 1, 1) := by decide +kernel
theorem dX10_help_6 : decode cX10_help 6 = .ok (.invokestatic 104, 3) := by decide +kernel
theorem dX10_help_9 : decode cX10_help 9 = .ok (.ifCond .eq 5, 3) := by decide +kernel
theorem dX10_help_12 : decode cX10_help 12 = .ok (.iconst (-1), 1) := by decide +kernel
theorem dX10_help_13 : decode cX10_help 13 = .ok (.ireturn, 1) := by decide +kernel
theorem dX10_help_14 : decode cX10_help 14 = .ok (.bipush (-9), 2) := by decide +kernel
theorem dX10_help_16 : decode cX10_help 16 = .ok (.istore_n 2, 1) := by decide +kernel
theorem dX10_help_17 : decode cX10_help 17 = .ok (.ldc2_w 188, 3) := by decide +kernel
theorem dX10_help_20 : decode cX10_help 20 = .ok (.lstore_n 3, 1) := by decide +kernel
theorem dX10_help_21 : decode cX10_help 21 = .ok (.iconst 1, 1) := by decide +kernel
theorem dX10_help_22 : decode cX10_help 22 = .ok (.istore 5, 2) := by decide +kernel
theorem dX10_help_24 : decode cX10_help 24 = .ok (.iload 5, 2) := by decide +kernel
theorem dX10_help_26 : decode cX10_help 26 = .ok (.aload_n 0, 1) := by decide +kernel
theorem dX10_help_27 : decode cX10_help 27 = .ok (.getfield 76, 3) := by decide +kernel
theorem dX10_help_30 : decode cX10_help 30 = .ok (.if_icmp .ge 64, 3) := by decide +kernel
theorem dX10_help_33 : decode cX10_help 33 = .ok (.aload_n 0, 1) := by decide +kernel
theorem dX10_help_34 : decode cX10_help 34 = .ok (.iload 5, 2) := by decide +kernel
theorem dX10_help_36 : decode cX10_help 36 = .ok (.aload_n 0, 1) := by decide +kernel
theorem dX10_help_37 : decode cX10_help 37 = .ok (.getfield 76, 3) := by decide +kernel
theorem dX10_help_40 : decode cX10_help 40 = .ok (.iconst 1, 1) := by decide +kernel
theorem dX10_help_41 : decode cX10_help 41 = .ok (.isub, 1) := by decide +kernel
theorem dX10_help_42 : decode cX10_help 42 = .ok (.iload_n 1, 1) := by decide +kernel
theorem dX10_help_43 : decode cX10_help 43 = .ok (.invokevirtual 190, 3) := by decide +kernel
theorem dX10_help_46 : decode cX10_help 46 = .ok (.aload_n 0, 1) := by decide +kernel
theorem dX10_help_47 : decode cX10_help 47 = .ok (.getfield 60, 3) := by decide +kernel
theorem dX10_help_50 : decode cX10_help 50 = .ok (.iload_n 1, 1) := by decide +kernel
theorem dX10_help_51 : decode cX10_help 51 = .ok (.laload, 1) := by decide +kernel
theorem dX10_help_52 : decode cX10_help 52 = .ok (.iload 5, 2) := by decide +kernel
theorem dX10_help_54 : decode cX10_help 54 = .ok (.invokestatic 194, 3) := by decide +kernel
theorem dX10_help_57 : decode cX10_help 57 = .ok (.lmul, 1) := by decide +kernel
theorem dX10_help_58 : decode cX10_help 58 = .ok (.lstore 6, 2) := by decide +kernel
theorem dX10_help_60 : decode cX10_help 60 = .ok (.lload 6, 2) := by decide +kernel
theorem dX10_help_62 : decode cX10_help 62 = .ok (.lload_n 3, 1) := by decide +kernel
theorem dX10_help_63 : decode cX10_help 63 = .ok (.lcmp, 1) := by decide +kernel
theorem dX10_help_64 : decode cX10_help 64 = .ok (.ifCond .le 8, 3) := by decide +kernel
theorem dX10_help_67 : decode cX10_help 67 = .ok (.iload 5, 2) := by decide +kernel
theorem dX10_help_69 : decode cX10_help 69 = .ok (.goto 4, 3) := by decide +kernel
theorem dX10_help_72 : decode cX10_help 72 = .ok (.iload_n 2, 1) := by decide +kernel
theorem dX10_help_73 : decode cX10_help 73 = .ok (.istore_n 2, 1) := by decide +kernel
theorem dX10_help_74 : decode cX10_help 74 = .ok (.lload 6, 2) := by decide +kernel
theorem dX10_help_76 : decode cX10_help 76 = .ok (.lload_n 3, 1) := by decide +kernel
theorem dX10_help_77 : decode cX10_help 77 = .ok (.lcmp, 1) := by decide +kernel
theorem dX10_help_78 : decode cX10_help 78 = .ok (.ifCond .le 8, 3) := by decide +kernel
theorem dX10_help_81 : decode cX10_help 81 = .ok (.lload 6, 2) := by decide +kernel
theorem dX10_help_83 : decode cX10_help 83 = .ok (.goto 4, 3) := by decide +kernel
theorem dX10_help_86 : decode cX10_help 86 = .ok (.lload_n 3, 1) := by decide +kernel
theorem dX10_help_87 : decode cX10_help 87 = .ok (.lstore_n 3, 1) := by decide +kernel
theorem dX10_help_88 : decode cX10_help 88 = .ok (.iinc 5 1, 3) := by decide +kernel
theorem dX10_help_91 : decode cX10_help 91 = .ok (.goto (-67), 3) := by decide +kernel
theorem dX10_help_94 : decode cX10_help 94 = .ok (.iload_n 2, 1) := by decide +kernel
theorem dX10_help_95 : decode cX10_help 95 = .ok (.ireturn, 1) := by decide +kernel
set_option maxRecDepth 20000 in
theorem ggX10_trace_X10_noRank : GoodIn wsX10_trace wsX10_noRank := goodIn_r _ [10, 11, 12, 13, 9, 14, 19, 20, 21, 22, 23, 24, 25, 26, 27, 28, 29, 30, 31, 32, 33, 34, 35, 36, 37, 38, 39, 40, 41, 42, 43, 44, 45, 46, 47, 48, 49] (by decide +kernel) (by decide +kernel)
set_option maxRecDepth 20000 in
theorem gX10_trace_X10_noRank : GoodIn wsX10_trace (wsV RX10 139 RX10 yX10_noRank wsX10_noRank) := goodIn_app (goodIn_of _ (by decide +kernel)) ggX10_trace_X10_noRank
set_option maxRecDepth 20000 in
theorem ggX10_trace_X10_noOrder : GoodIn wsX10_trace wsX10_noOrder := goodIn_r _ [17, 18, 12, 13, 9, 14] (by decide +kernel) (by decide +kernel)
set_option maxRecDepth 20000 in
theorem gX10_trace_X10_noOrder : GoodIn wsX10_trace (va_wsS RX10 104 yX10_noOrder wsX10_noOrder) := goodIn_app (goodIn_of _ (by decide +kernel)) ggX10_trace_X10_noOrder
theorem dX10_trace_0 : decode cX10_trace 0 = .ok (.aload_n 0, 1) := by decide +kernel
theorem dX10_trace_1 : decode cX10_trace 1 = .ok (.iconst 0, 1) := by decide +kernel
theorem dX10_trace_2 : decode cX10_trace 2 = .ok (.putfield 72, 3) := by decide +kernel
theorem dX10_trace_5 : decode cX10_trace 5 = .ok (.aload_n 0, 1) := by decide +kernel
theorem dX10_trace_6 : decode cX10_trace 6 = .ok (.iload_n 1, 1) := by decide +kernel
theorem dX10_trace_7 : decode cX10_trace 7 = .ok (.invokevirtual 139, 3) := by decide +kernel
theorem dX10_trace_10 : decode cX10_trace 10 = .ok (.ifCond .ne 10, 3) := by decide +kernel
theorem dX10_trace_13 : decode cX10_trace 13 = .ok (.iload_n 2, 1) := by decide +kernel
theorem dX10_trace_14 : decode cX10_trace 14 = .ok (.invokestatic 104, 3) := by decide +kernel
theorem dX10_trace_17 : decode cX10_trace 17 = .ok (.ifCond .eq 5, 3) := by decide +kernel
theorem dX10_trace_20 : decode cX10_trace 20 = .ok (.iconst (-1), 1) := by decide +kernel
theorem dX10_trace_21 : decode cX10_trace 21 = .ok (.ireturn, 1) := by decide +kernel
theorem dX10_trace_22 : decode cX10_trace 22 = .ok (.aload_n 0, 1) := by decide +kernel
theorem dX10_trace_23 : decode cX10_trace 23 = .ok (.getfield 136, 3) := by decide +kernel
theorem dX10_trace_26 : decode cX10_trace 26 = .ok (.bipush 6, 2) := by decide +kernel
theorem dX10_trace_28 : decode cX10_trace 28 = .ok (.if_icmp .ne 6, 3) := by decide +kernel
theorem dX10_trace_31 : decode cX10_trace 31 = .ok (.bipush (-4), 2) := by decide +kernel
theorem dX10_trace_33 : decode cX10_trace 33 = .ok (.ireturn, 1) := by decide +kernel
theorem dX10_trace_34 : decode cX10_trace 34 = .ok (.aload_n 0, 1) := by decide +kernel
theorem dX10_trace_35 : decode cX10_trace 35 = .ok (.getfield 45, 3) := by decide +kernel
theorem dX10_trace_38 : decode cX10_trace 38 = .ok (.aload_n 0, 1) := by decide +kernel
theorem dX10_trace_39 : decode cX10_trace 39 = .ok (.getfield 136, 3) := by decide +kernel
theorem dX10_trace_42 : decode cX10_trace 42 = .ok (.iload_n 1, 1) := by decide +kernel
theorem dX10_trace_43 : decode cX10_trace 43 = .ok (.iastore, 1) := by decide +kernel
theorem dX10_trace_44 : decode cX10_trace 44 = .ok (.aload_n 0, 1) := by decide +kernel
theorem dX10_trace_45 : decode cX10_trace 45 = .ok (.getfield 48, 3) := by decide +kernel
theorem dX10_trace_48 : decode cX10_trace 48 = .ok (.aload_n 0, 1) := by decide +kernel
theorem dX10_trace_49 : decode cX10_trace 49 = .ok (.getfield 136, 3) := by decide +kernel
theorem dX10_trace_52 : decode cX10_trace 52 = .ok (.iload_n 2, 1) := by decide +kernel
theorem dX10_trace_53 : decode cX10_trace 53 = .ok (.iastore, 1) := by decide +kernel
theorem dX10_trace_54 : decode cX10_trace 54 = .ok (.aload_n 0, 1) := by decide +kernel
theorem dX10_trace_55 : decode cX10_trace 55 = .ok (.getfield 51, 3) := by decide +kernel
theorem dX10_trace_58 : decode cX10_trace 58 = .ok (.aload_n 0, 1) := by decide +kernel
theorem dX10_trace_59 : decode cX10_trace 59 = .ok (.getfield 136, 3) := by decide +kernel
theorem dX10_trace_62 : decode cX10_trace 62 = .ok (.iload_n 3, 1) := by decide +kernel
theorem dX10_trace_63 : decode cX10_trace 63 = .ok (.bastore, 1) := by decide +kernel
theorem dX10_trace_64 : decode cX10_trace 64 = .ok (.aload_n 0, 1) := by decide +kernel
theorem dX10_trace_65 : decode cX10_trace 65 = .ok (.dup, 1) := by decide +kernel
theorem dX10_trace_66 : decode cX10_trace 66 = .ok (.getfield 136, 3) := by decide +kernel
theorem dX10_trace_69 : decode cX10_trace 69 = .ok (.iconst 1, 1) := by decide +kernel
theorem dX10_trace_70 : decode cX10_trace 70 = .ok (.iadd, 1) := by decide +kernel
theorem dX10_trace_71 : decode cX10_trace 71 = .ok (.putfield 136, 3) := by decide +kernel
theorem dX10_trace_74 : decode cX10_trace 74 = .ok (.aload_n 0, 1) := by decide +kernel
theorem dX10_trace_75 : decode cX10_trace 75 = .ok (.getfield 136, 3) := by decide +kernel
theorem dX10_trace_78 : decode cX10_trace 78 = .ok (.ireturn, 1) := by decide +kernel
theorem dX10_untrace_0 : decode cX10_untrace 0 = .ok (.aload_n 0, 1) := by decide +kernel
theorem dX10_untrace_1 : decode cX10_untrace 1 = .ok (.iconst 0, 1) := by decide +kernel
theorem dX10_untrace_2 : decode cX10_untrace 2 = .ok (.putfield 72, 3) := by decide +kernel
theorem dX10_untrace_5 : decode cX10_untrace 5 = .ok (.aload_n 0, 1) := by decide +kernel
theorem dX10_untrace_6 : decode cX10_untrace 6 = .ok (.getfield 136, 3) := by decide +kernel
theorem dX10_untrace_9 : decode cX10_untrace 9 = .ok (.istore_n 1, 1) := by decide +kernel
theorem dX10_untrace_10 : decode cX10_untrace 10 = .ok (.aload_n 0, 1) := by decide +kernel
theorem dX10_untrace_11 : decode cX10_untrace 11 = .ok (.iconst 0, 1) := by decide +kernel
theorem dX10_untrace_12 : decode cX10_untrace 12 = .ok (.putfield 136, 3) := by decide +kernel
theorem dX10_untrace_15 : decode cX10_untrace 15 = .ok (.iload_n 1, 1) := by decide +kernel
theorem dX10_untrace_16 : decode cX10_untrace 16 = .ok (.ireturn, 1) := by decide +kernel
theorem dX10_isTraced_0 : decode cX10_isTraced 0 = .ok (.iconst 1, 1) := by decide +kernel
theorem dX10_isTraced_1 : decode cX10_isTraced 1 = .ok (.istore_n 3, 1) := by decide +kernel
theorem dX10_isTraced_2 : decode cX10_isTraced 2 = .ok (.iconst 0, 1) := by decide +kernel
theorem dX10_isTraced_3 : decode cX10_isTraced 3 = .ok (.istore 4, 2) := by decide +kernel
theorem dX10_isTraced_5 : decode cX10_isTraced 5 = .ok (.iload 4, 2) := by decide +kernel
theorem dX10_isTraced_7 : decode cX10_isTraced 7 = .ok (.aload_n 0, 1) := by decide +kernel
theorem dX10_isTraced_8 : decode cX10_isTraced 8 = .ok (.getfield 136, 3) := by decide +kernel
theorem dX10_isTraced_11 : decode cX10_isTraced 11 = .ok (.if_icmp .ge 56, 3) := by decide +kernel
theorem dX10_isTraced_14 : decode cX10_isTraced 14 = .ok (.iload_n 3, 1) := by decide +kernel
theorem dX10_isTraced_15 : decode cX10_isTraced 15 = .ok (.ifCond .eq 44, 3) := by decide +kernel
theorem dX10_isTraced_18 : decode cX10_isTraced 18 = .ok (.aload_n 0, 1) := by decide +kernel
theorem dX10_isTraced_19 : decode cX10_isTraced 19 = .ok (.getfield 45, 3) := by decide +kernel
theorem dX10_isTraced_22 : decode cX10_isTraced 22 = .ok (.iload 4, 2) := by decide +kernel
theorem dX10_isTraced_24 : decode cX10_isTraced 24 = .ok (.iaload, 1) := by decide +kernel
theorem dX10_isTraced_25 : decode cX10_isTraced 25 = .ok (.iload_n 1, 1) := by decide +kernel
theorem dX10_isTraced_26 : decode cX10_isTraced 26 = .ok (.if_icmp .ne 29, 3) := by decide +kernel
theorem dX10_isTraced_29 : decode cX10_isTraced 29 = .ok (.aload_n 0, 1) := by decide +kernel
theorem dX10_isTraced_30 : decode cX10_isTraced 30 = .ok (.getfield 48, 3) := by decide +kernel
theorem dX10_isTraced_33 : decode cX10_isTraced 33 = .ok (.iload 4, 2) := by decide +kernel
theorem dX10_isTraced_35 : decode cX10_isTraced 35 = .ok (.iaload, 1) := by decide +kernel
theorem dX10_isTraced_36 : decode cX10_isTraced 36 = .ok (.iload_n 2, 1) := by decide +kernel
theorem dX10_isTraced_37 : decode cX10_isTraced 37 = .ok (.if_icmp .ne 7, 3) := by decide +kernel
theorem dX10_isTraced_40 : decode cX10_isTraced 40 = .ok (.iconst 1, 1) := by decide +kernel
theorem dX10_isTraced_41 : decode cX10_isTraced 41 = .ok (.goto 4, 3) := by decide +kernel
theorem dX10_isTraced_44 : decode cX10_isTraced 44 = .ok (.iconst 0, 1) := by decide +kernel
theorem dX10_isTraced_45 : decode cX10_isTraced 45 = .ok (.aload_n 0, 1) := by decide +kernel
theorem dX10_isTraced_46 : decode cX10_isTraced 46 = .ok (.getfield 51, 3) := by decide +kernel
theorem dX10_isTraced_49 : decode cX10_isTraced 49 = .ok (.iload 4, 2) := by decide +kernel
theorem dX10_isTraced_51 : decode cX10_isTraced 51 = .ok (.baload, 1) := by decide +kernel
theorem dX10_isTraced_52 : decode cX10_isTraced 52 = .ok (.if_icmp .ne 7, 3) := by decide +kernel
theorem dX10_isTraced_55 : decode cX10_isTraced 55 = .ok (.iconst 1, 1) := by decide +kernel
theorem dX10_isTraced_56 : decode cX10_isTraced 56 = .ok (.goto 4, 3) := by decide +kernel
theorem dX10_isTraced_59 : decode cX10_isTraced 59 = .ok (.iconst 0, 1) := by decide +kernel
theorem dX10_isTraced_60 : decode cX10_isTraced 60 = .ok (.istore_n 3, 1) := by decide +kernel
theorem dX10_isTraced_61 : decode cX10_isTraced 61 = .ok (.iinc 4 1, 3) := by decide +kernel
theorem dX10_isTraced_64 : decode cX10_isTraced 64 = .ok (.goto (-59), 3) := by decide +kernel
theorem dX10_isTraced_67 : decode cX10_isTraced 67 = .ok (.iload_n 3, 1) := by decide +kernel
theorem dX10_isTraced_68 : decode cX10_isTraced 68 = .ok (.ireturn, 1) := by decide +kernel
set_option maxRecDepth 20000 in
theorem ggX10_layWays_X10_turned : GoodIn wsX10_layWays wsX10_turned := goodIn_r _ [8, 9, 23, 24, 25, 26, 27, 28, 29, 30, 31, 32, 33, 34, 35, 36, 37, 38, 39, 40, 41, 42, 43, 44, 45, 46, 47, 48, 49, 50, 51, 52, 53] (by decide +kernel) (by decide +kernel)
set_option maxRecDepth 20000 in
theorem gX10_layWays_X10_turned : GoodIn wsX10_layWays (wsV RX10 150 RX10 yX10_turned wsX10_turned) := goodIn_app (goodIn_of _ (by decide +kernel)) ggX10_layWays_X10_turned
set_option maxRecDepth 20000 in
theorem ggX10_layWays_X10_isTraced : GoodIn wsX10_layWays wsX10_isTraced := goodIn_r _ [13, 14, 15, 16, 17, 23, 24, 25, 26, 27, 28, 29, 30, 31, 32, 33, 34, 35, 36, 37, 38, 39, 40, 41, 42, 43, 44, 45, 46, 47, 48, 49, 50, 51, 52, 53] (by decide +kernel) (by decide +kernel)
set_option maxRecDepth 20000 in
theorem gX10_layWays_X10_isTraced : GoodIn wsX10_layWays (wsV RX10 217 RX10 yX10_isTraced wsX10_isTraced) := goodIn_app (goodIn_of _ (by decide +kernel)) ggX10_layWays_X10_isTraced
set_option maxRecDepth 20000 in
theorem ggX10_layWays_X10_tenthsOf : GoodIn wsX10_layWays wsX10_tenthsOf := goodIn_r _ [21, 22, 23, 24, 25, 26, 27, 28, 29, 30, 31, 32, 33, 34, 35, 36, 37, 38, 39, 40, 41, 42, 43, 44, 45, 46, 47, 48, 49, 50, 51, 52, 53] (by decide +kernel) (by decide +kernel)
set_option maxRecDepth 20000 in
theorem gX10_layWays_X10_tenthsOf : GoodIn wsX10_layWays (wsV RX10 142 RX10 yX10_tenthsOf wsX10_tenthsOf) := goodIn_app (goodIn_of _ (by decide +kernel)) ggX10_layWays_X10_tenthsOf
theorem dX10_layWays_0 : decode cX10_layWays 0 = .ok (.iconst 0, 1) := by decide +kernel
theorem dX10_layWays_1 : decode cX10_layWays 1 = .ok (.istore_n 1, 1) := by decide +kernel
theorem dX10_layWays_2 : decode cX10_layWays 2 = .ok (.iload_n 1, 1) := by decide +kernel
theorem dX10_layWays_3 : decode cX10_layWays 3 = .ok (.bipush 25, 2) := by decide +kernel
theorem dX10_layWays_5 : decode cX10_layWays 5 = .ok (.if_icmp .ge 45, 3) := by decide +kernel
theorem dX10_layWays_8 : decode cX10_layWays 8 = .ok (.aload_n 0, 1) := by decide +kernel
theorem dX10_layWays_9 : decode cX10_layWays 9 = .ok (.getfield 66, 3) := by decide +kernel
theorem dX10_layWays_12 : decode cX10_layWays 12 = .ok (.iload_n 1, 1) := by decide +kernel
theorem dX10_layWays_13 : decode cX10_layWays 13 = .ok (.iload_n 1, 1) := by decide +kernel
theorem dX10_layWays_14 : decode cX10_layWays 14 = .ok (.iconst 5, 1) := by decide +kernel
theorem dX10_layWays_15 : decode cX10_layWays 15 = .ok (.irem, 1) := by decide +kernel
theorem dX10_layWays_16 : decode cX10_layWays 16 = .ok (.aload_n 0, 1) := by decide +kernel
theorem dX10_layWays_17 : decode cX10_layWays 17 = .ok (.iconst 0, 1) := by decide +kernel
theorem dX10_layWays_18 : decode cX10_layWays 18 = .ok (.iload_n 1, 1) := by decide +kernel
theorem dX10_layWays_19 : decode cX10_layWays 19 = .ok (.iconst 5, 1) := by decide +kernel
theorem dX10_layWays_20 : decode cX10_layWays 20 = .ok (.idiv, 1) := by decide +kernel
theorem dX10_layWays_21 : decode cX10_layWays 21 = .ok (.invokevirtual 150, 3) := by decide +kernel
theorem dX10_layWays_24 : decode cX10_layWays 24 = .ok (.if_icmp .ne 18, 3) := by decide +kernel
theorem dX10_layWays_27 : decode cX10_layWays 27 = .ok (.aload_n 0, 1) := by decide +kernel
theorem dX10_layWays_28 : decode cX10_layWays 28 = .ok (.iconst 0, 1) := by decide +kernel
theorem dX10_layWays_29 : decode cX10_layWays 29 = .ok (.iload_n 1, 1) := by decide +kernel
theorem dX10_layWays_30 : decode cX10_layWays 30 = .ok (.iconst 5, 1) := by decide +kernel
theorem dX10_layWays_31 : decode cX10_layWays 31 = .ok (.irem, 1) := by decide +kernel
theorem dX10_layWays_32 : decode cX10_layWays 32 = .ok (.invokevirtual 217, 3) := by decide +kernel
theorem dX10_layWays_35 : decode cX10_layWays 35 = .ok (.ifCond .eq 7, 3) := by decide +kernel
theorem dX10_layWays_38 : decode cX10_layWays 38 = .ok (.iconst 1, 1) := by decide +kernel
theorem dX10_layWays_39 : decode cX10_layWays 39 = .ok (.goto 4, 3) := by decide +kernel
theorem dX10_layWays_42 : decode cX10_layWays 42 = .ok (.iconst 0, 1) := by decide +kernel
theorem dX10_layWays_43 : decode cX10_layWays 43 = .ok (.iastore, 1) := by decide +kernel
theorem dX10_layWays_44 : decode cX10_layWays 44 = .ok (.iinc 1 1, 3) := by decide +kernel
theorem dX10_layWays_47 : decode cX10_layWays 47 = .ok (.goto (-45), 3) := by decide +kernel
theorem dX10_layWays_50 : decode cX10_layWays 50 = .ok (.iconst 1, 1) := by decide +kernel
theorem dX10_layWays_51 : decode cX10_layWays 51 = .ok (.istore_n 1, 1) := by decide +kernel
theorem dX10_layWays_52 : decode cX10_layWays 52 = .ok (.iload_n 1, 1) := by decide +kernel
theorem dX10_layWays_53 : decode cX10_layWays 53 = .ok (.aload_n 0, 1) := by decide +kernel
theorem dX10_layWays_54 : decode cX10_layWays 54 = .ok (.getfield 76, 3) := by decide +kernel
theorem dX10_layWays_57 : decode cX10_layWays 57 = .ok (.if_icmp .ge 151, 3) := by decide +kernel
theorem dX10_layWays_60 : decode cX10_layWays 60 = .ok (.iconst 0, 1) := by decide +kernel
theorem dX10_layWays_61 : decode cX10_layWays 61 = .ok (.istore_n 2, 1) := by decide +kernel
theorem dX10_layWays_62 : decode cX10_layWays 62 = .ok (.iload_n 2, 1) := by decide +kernel
theorem dX10_layWays_63 : decode cX10_layWays 63 = .ok (.bipush 25, 2) := by decide +kernel
theorem dX10_layWays_65 : decode cX10_layWays 65 = .ok (.if_icmp .ge 16, 3) := by decide +kernel
theorem dX10_layWays_68 : decode cX10_layWays 68 = .ok (.aload_n 0, 1) := by decide +kernel
theorem dX10_layWays_69 : decode cX10_layWays 69 = .ok (.getfield 69, 3) := by decide +kernel
theorem dX10_layWays_72 : decode cX10_layWays 72 = .ok (.iload_n 2, 1) := by decide +kernel
theorem dX10_layWays_73 : decode cX10_layWays 73 = .ok (.iconst 0, 1) := by decide +kernel
theorem dX10_layWays_74 : decode cX10_layWays 74 = .ok (.iastore, 1) := by decide +kernel
theorem dX10_layWays_75 : decode cX10_layWays 75 = .ok (.iinc 2 1, 3) := by decide +kernel
theorem dX10_layWays_78 : decode cX10_layWays 78 = .ok (.goto (-16), 3) := by decide +kernel
theorem dX10_layWays_81 : decode cX10_layWays 81 = .ok (.iconst 0, 1) := by decide +kernel
theorem dX10_layWays_82 : decode cX10_layWays 82 = .ok (.istore_n 2, 1) := by decide +kernel
theorem dX10_layWays_83 : decode cX10_layWays 83 = .ok (.iload_n 2, 1) := by decide +kernel
theorem dX10_layWays_84 : decode cX10_layWays 84 = .ok (.bipush 25, 2) := by decide +kernel
theorem dX10_layWays_86 : decode cX10_layWays 86 = .ok (.if_icmp .ge 90, 3) := by decide +kernel
theorem dX10_layWays_89 : decode cX10_layWays 89 = .ok (.iconst 0, 1) := by decide +kernel
theorem dX10_layWays_90 : decode cX10_layWays 90 = .ok (.istore_n 3, 1) := by decide +kernel
theorem dX10_layWays_91 : decode cX10_layWays 91 = .ok (.iload_n 3, 1) := by decide +kernel
theorem dX10_layWays_92 : decode cX10_layWays 92 = .ok (.iconst 5, 1) := by decide +kernel
theorem dX10_layWays_93 : decode cX10_layWays 93 = .ok (.if_icmp .ge 77, 3) := by decide +kernel
theorem dX10_layWays_96 : decode cX10_layWays 96 = .ok (.aload_n 0, 1) := by decide +kernel
theorem dX10_layWays_97 : decode cX10_layWays 97 = .ok (.iload_n 1, 1) := by decide +kernel
theorem dX10_layWays_98 : decode cX10_layWays 98 = .ok (.iload_n 2, 1) := by decide +kernel
theorem dX10_layWays_99 : decode cX10_layWays 99 = .ok (.iconst 5, 1) := by decide +kernel
theorem dX10_layWays_100 : decode cX10_layWays 100 = .ok (.irem, 1) := by decide +kernel
theorem dX10_layWays_101 : decode cX10_layWays 101 = .ok (.iload_n 3, 1) := by decide +kernel
theorem dX10_layWays_102 : decode cX10_layWays 102 = .ok (.invokevirtual 142, 3) := by decide +kernel
theorem dX10_layWays_105 : decode cX10_layWays 105 = .ok (.ifCond .le 21, 3) := by decide +kernel
theorem dX10_layWays_108 : decode cX10_layWays 108 = .ok (.aload_n 0, 1) := by decide +kernel
theorem dX10_layWays_109 : decode cX10_layWays 109 = .ok (.iload_n 1, 1) := by decide +kernel
theorem dX10_layWays_110 : decode cX10_layWays 110 = .ok (.aload_n 0, 1) := by decide +kernel
theorem dX10_layWays_111 : decode cX10_layWays 111 = .ok (.iload_n 1, 1) := by decide +kernel
theorem dX10_layWays_112 : decode cX10_layWays 112 = .ok (.iload_n 3, 1) := by decide +kernel
theorem dX10_layWays_113 : decode cX10_layWays 113 = .ok (.invokevirtual 150, 3) := by decide +kernel
theorem dX10_layWays_116 : decode cX10_layWays 116 = .ok (.invokevirtual 217, 3) := by decide +kernel
theorem dX10_layWays_119 : decode cX10_layWays 119 = .ok (.ifCond .eq 7, 3) := by decide +kernel
theorem dX10_layWays_122 : decode cX10_layWays 122 = .ok (.iconst 1, 1) := by decide +kernel
theorem dX10_layWays_123 : decode cX10_layWays 123 = .ok (.goto 4, 3) := by decide +kernel
theorem dX10_layWays_126 : decode cX10_layWays 126 = .ok (.iconst 0, 1) := by decide +kernel
theorem dX10_layWays_127 : decode cX10_layWays 127 = .ok (.istore 4, 2) := by decide +kernel
theorem dX10_layWays_129 : decode cX10_layWays 129 = .ok (.aload_n 0, 1) := by decide +kernel
theorem dX10_layWays_130 : decode cX10_layWays 130 = .ok (.getfield 69, 3) := by decide +kernel
theorem dX10_layWays_133 : decode cX10_layWays 133 = .ok (.iload_n 2, 1) := by decide +kernel
theorem dX10_layWays_134 : decode cX10_layWays 134 = .ok (.iconst 5, 1) := by decide +kernel
theorem dX10_layWays_135 : decode cX10_layWays 135 = .ok (.idiv, 1) := by decide +kernel
theorem dX10_layWays_136 : decode cX10_layWays 136 = .ok (.iconst 5, 1) := by decide +kernel
theorem dX10_layWays_137 : decode cX10_layWays 137 = .ok (.imul, 1) := by decide +kernel
theorem dX10_layWays_138 : decode cX10_layWays 138 = .ok (.aload_n 0, 1) := by decide +kernel
theorem dX10_layWays_139 : decode cX10_layWays 139 = .ok (.iload_n 1, 1) := by decide +kernel
theorem dX10_layWays_140 : decode cX10_layWays 140 = .ok (.iload_n 3, 1) := by decide +kernel
theorem dX10_layWays_141 : decode cX10_layWays 141 = .ok (.invokevirtual 150, 3) := by decide +kernel
theorem dX10_layWays_144 : decode cX10_layWays 144 = .ok (.iadd, 1) := by decide +kernel
theorem dX10_layWays_145 : decode cX10_layWays 145 = .ok (.dup2, 1) := by decide +kernel
theorem dX10_layWays_146 : decode cX10_layWays 146 = .ok (.iaload, 1) := by decide +kernel
theorem dX10_layWays_147 : decode cX10_layWays 147 = .ok (.iload 4, 2) := by decide +kernel
theorem dX10_layWays_149 : decode cX10_layWays 149 = .ok (.ifCond .eq 12, 3) := by decide +kernel
theorem dX10_layWays_152 : decode cX10_layWays 152 = .ok (.aload_n 0, 1) := by decide +kernel
theorem dX10_layWays_153 : decode cX10_layWays 153 = .ok (.getfield 66, 3) := by decide +kernel
theorem dX10_layWays_156 : decode cX10_layWays 156 = .ok (.iload_n 2, 1) := by decide +kernel
theorem dX10_layWays_157 : decode cX10_layWays 157 = .ok (.iaload, 1) := by decide +kernel
theorem dX10_layWays_158 : decode cX10_layWays 158 = .ok (.goto 4, 3) := by decide +kernel
theorem dX10_layWays_161 : decode cX10_layWays 161 = .ok (.iconst 0, 1) := by decide +kernel
theorem dX10_layWays_162 : decode cX10_layWays 162 = .ok (.iadd, 1) := by decide +kernel
theorem dX10_layWays_163 : decode cX10_layWays 163 = .ok (.iastore, 1) := by decide +kernel
theorem dX10_layWays_164 : decode cX10_layWays 164 = .ok (.iinc 3 1, 3) := by decide +kernel
theorem dX10_layWays_167 : decode cX10_layWays 167 = .ok (.goto (-76), 3) := by decide +kernel
theorem dX10_layWays_170 : decode cX10_layWays 170 = .ok (.iinc 2 1, 3) := by decide +kernel
theorem dX10_layWays_173 : decode cX10_layWays 173 = .ok (.goto (-90), 3) := by decide +kernel
theorem dX10_layWays_176 : decode cX10_layWays 176 = .ok (.iconst 0, 1) := by decide +kernel
theorem dX10_layWays_177 : decode cX10_layWays 177 = .ok (.istore_n 2, 1) := by decide +kernel
theorem dX10_layWays_178 : decode cX10_layWays 178 = .ok (.iload_n 2, 1) := by decide +kernel
theorem dX10_layWays_179 : decode cX10_layWays 179 = .ok (.bipush 25, 2) := by decide +kernel
theorem dX10_layWays_181 : decode cX10_layWays 181 = .ok (.if_icmp .ge 21, 3) := by decide +kernel
theorem dX10_layWays_184 : decode cX10_layWays 184 = .ok (.aload_n 0, 1) := by decide +kernel
theorem dX10_layWays_185 : decode cX10_layWays 185 = .ok (.getfield 66, 3) := by decide +kernel
theorem dX10_layWays_188 : decode cX10_layWays 188 = .ok (.iload_n 2, 1) := by decide +kernel
theorem dX10_layWays_189 : decode cX10_layWays 189 = .ok (.aload_n 0, 1) := by decide +kernel
theorem dX10_layWays_190 : decode cX10_layWays 190 = .ok (.getfield 69, 3) := by decide +kernel
theorem dX10_layWays_193 : decode cX10_layWays 193 = .ok (.iload_n 2, 1) := by decide +kernel
theorem dX10_layWays_194 : decode cX10_layWays 194 = .ok (.iaload, 1) := by decide +kernel
theorem dX10_layWays_195 : decode cX10_layWays 195 = .ok (.iastore, 1) := by decide +kernel
theorem dX10_layWays_196 : decode cX10_layWays 196 = .ok (.iinc 2 1, 3) := by decide +kernel
theorem dX10_layWays_199 : decode cX10_layWays 199 = .ok (.goto (-21), 3) := by decide +kernel
theorem dX10_layWays_202 : decode cX10_layWays 202 = .ok (.iinc 1 1, 3) := by decide +kernel
theorem dX10_layWays_205 : decode cX10_layWays 205 = .ok (.goto (-153), 3) := by decide +kernel
theorem dX10_layWays_208 : decode cX10_layWays 208 = .ok (.return_, 1) := by decide +kernel
set_option maxRecDepth 20000 in
theorem ggX10_fits_X10_layWays : GoodIn wsX10_fits wsX10_layWays := goodIn_r _ [8, 3, 2, 9, 10, 11, 12, 7, 13, 14, 15, 16, 17, 18, 19, 20, 21, 22, 23, 24, 25, 26, 27, 28, 29, 30, 31, 32, 33, 34, 35, 36, 37, 38, 39, 40, 41, 42, 43, 44, 45, 46, 47, 48, 49, 50, 51, 52, 53, 54, 55, 56, 57, 58] (by decide +kernel) (by decide +kernel)
set_option maxRecDepth 20000 in
theorem gX10_fits_X10_layWays : GoodIn wsX10_fits (wsV RX10 220 RX10 yX10_layWays wsX10_layWays) := goodIn_app (goodIn_of _ (by decide +kernel)) ggX10_fits_X10_layWays
theorem dX10_fits_0 : decode cX10_fits 0 = .ok (.aload_n 0, 1) := by decide +kernel
theorem dX10_fits_1 : decode cX10_fits 1 = .ok (.iconst 0, 1) := by decide +kernel
theorem dX10_fits_2 : decode cX10_fits 2 = .ok (.putfield 72, 3) := by decide +kernel
theorem dX10_fits_5 : decode cX10_fits 5 = .ok (.aload_n 0, 1) := by decide +kernel
theorem dX10_fits_6 : decode cX10_fits 6 = .ok (.getfield 76, 3) := by decide +kernel
theorem dX10_fits_9 : decode cX10_fits 9 = .ok (.ifCond .ne 5, 3) := by decide +kernel
theorem dX10_fits_12 : decode cX10_fits 12 = .ok (.iconst 0, 1) := by decide +kernel
theorem dX10_fits_13 : decode cX10_fits 13 = .ok (.ireturn, 1) := by decide +kernel
theorem dX10_fits_14 : decode cX10_fits 14 = .ok (.aload_n 0, 1) := by decide +kernel
theorem dX10_fits_15 : decode cX10_fits 15 = .ok (.invokevirtual 220, 3) := by decide +kernel
theorem dX10_fits_18 : decode cX10_fits 18 = .ok (.iconst 0, 1) := by decide +kernel
theorem dX10_fits_19 : decode cX10_fits 19 = .ok (.istore_n 1, 1) := by decide +kernel
theorem dX10_fits_20 : decode cX10_fits 20 = .ok (.iconst 0, 1) := by decide +kernel
theorem dX10_fits_21 : decode cX10_fits 21 = .ok (.istore_n 2, 1) := by decide +kernel
theorem dX10_fits_22 : decode cX10_fits 22 = .ok (.iload_n 2, 1) := by decide +kernel
theorem dX10_fits_23 : decode cX10_fits 23 = .ok (.bipush 25, 2) := by decide +kernel
theorem dX10_fits_25 : decode cX10_fits 25 = .ok (.if_icmp .ge 18, 3) := by decide +kernel
theorem dX10_fits_28 : decode cX10_fits 28 = .ok (.iload_n 1, 1) := by decide +kernel
theorem dX10_fits_29 : decode cX10_fits 29 = .ok (.aload_n 0, 1) := by decide +kernel
theorem dX10_fits_30 : decode cX10_fits 30 = .ok (.getfield 66, 3) := by decide +kernel
theorem dX10_fits_33 : decode cX10_fits 33 = .ok (.iload_n 2, 1) := by decide +kernel
theorem dX10_fits_34 : decode cX10_fits 34 = .ok (.iaload, 1) := by decide +kernel
theorem dX10_fits_35 : decode cX10_fits 35 = .ok (.iadd, 1) := by decide +kernel
theorem dX10_fits_36 : decode cX10_fits 36 = .ok (.istore_n 1, 1) := by decide +kernel
theorem dX10_fits_37 : decode cX10_fits 37 = .ok (.iinc 2 1, 3) := by decide +kernel
theorem dX10_fits_40 : decode cX10_fits 40 = .ok (.goto (-18), 3) := by decide +kernel
theorem dX10_fits_43 : decode cX10_fits 43 = .ok (.iload_n 1, 1) := by decide +kernel
theorem dX10_fits_44 : decode cX10_fits 44 = .ok (.ireturn, 1) := by decide +kernel
set_option maxRecDepth 20000 in
theorem ggX10_told_X10_layWays : GoodIn wsX10_told wsX10_layWays := goodIn_r _ [8, 3, 2, 9, 10, 11, 12, 7, 13, 14, 15, 16, 17, 18, 19, 20, 21, 22, 23, 24, 25, 26, 27, 28, 29, 30, 31, 32, 33, 34, 35, 36, 37, 38, 39, 40, 41, 42, 43, 44, 45, 46, 47, 48, 49, 50, 51, 52, 53, 54, 55, 56, 57, 58] (by decide +kernel) (by decide +kernel)
set_option maxRecDepth 20000 in
theorem gX10_told_X10_layWays : GoodIn wsX10_told (wsV RX10 220 RX10 yX10_layWays wsX10_layWays) := goodIn_app (goodIn_of _ (by decide +kernel)) ggX10_told_X10_layWays
theorem dX10_told_0 : decode cX10_told 0 = .ok (.aload_n 0, 1) := by decide +kernel
theorem dX10_told_1 : decode cX10_told 1 = .ok (.iconst 0, 1) := by decide +kernel
theorem dX10_told_2 : decode cX10_told 2 = .ok (.putfield 72, 3) := by decide +kernel
theorem dX10_told_5 : decode cX10_told 5 = .ok (.aload_n 0, 1) := by decide +kernel
theorem dX10_told_6 : decode cX10_told 6 = .ok (.getfield 76, 3) := by decide +kernel
theorem dX10_told_9 : decode cX10_told 9 = .ok (.ifCond .ne 5, 3) := by decide +kernel
theorem dX10_told_12 : decode cX10_told 12 = .ok (.iconst 0, 1) := by decide +kernel
theorem dX10_told_13 : decode cX10_told 13 = .ok (.ireturn, 1) := by decide +kernel
theorem dX10_told_14 : decode cX10_told 14 = .ok (.aload_n 0, 1) := by decide +kernel
theorem dX10_told_15 : decode cX10_told 15 = .ok (.invokevirtual 220, 3) := by decide +kernel
theorem dX10_told_18 : decode cX10_told 18 = .ok (.iconst 0, 1) := by decide +kernel
theorem dX10_told_19 : decode cX10_told 19 = .ok (.istore_n 1, 1) := by decide +kernel
theorem dX10_told_20 : decode cX10_told 20 = .ok (.iconst 0, 1) := by decide +kernel
theorem dX10_told_21 : decode cX10_told 21 = .ok (.istore_n 2, 1) := by decide +kernel
theorem dX10_told_22 : decode cX10_told 22 = .ok (.iload_n 2, 1) := by decide +kernel
theorem dX10_told_23 : decode cX10_told 23 = .ok (.bipush 25, 2) := by decide +kernel
theorem dX10_told_25 : decode cX10_told 25 = .ok (.if_icmp .ge 30, 3) := by decide +kernel
theorem dX10_told_28 : decode cX10_told 28 = .ok (.iload_n 1, 1) := by decide +kernel
theorem dX10_told_29 : decode cX10_told 29 = .ok (.aload_n 0, 1) := by decide +kernel
theorem dX10_told_30 : decode cX10_told 30 = .ok (.getfield 66, 3) := by decide +kernel
theorem dX10_told_33 : decode cX10_told 33 = .ok (.iload_n 2, 1) := by decide +kernel
theorem dX10_told_34 : decode cX10_told 34 = .ok (.iaload, 1) := by decide +kernel
theorem dX10_told_35 : decode cX10_told 35 = .ok (.ifCond .le 11, 3) := by decide +kernel
theorem dX10_told_38 : decode cX10_told 38 = .ok (.iconst 1, 1) := by decide +kernel
theorem dX10_told_39 : decode cX10_told 39 = .ok (.iload_n 2, 1) := by decide +kernel
theorem dX10_told_40 : decode cX10_told 40 = .ok (.iconst 5, 1) := by decide +kernel
theorem dX10_told_41 : decode cX10_told 41 = .ok (.idiv, 1) := by decide +kernel
theorem dX10_told_42 : decode cX10_told 42 = .ok (.ishl, 1) := by decide +kernel
theorem dX10_told_43 : decode cX10_told 43 = .ok (.goto 4, 3) := by decide +kernel
theorem dX10_told_46 : decode cX10_told 46 = .ok (.iconst 0, 1) := by decide +kernel
theorem dX10_told_47 : decode cX10_told 47 = .ok (.ior, 1) := by decide +kernel
theorem dX10_told_48 : decode cX10_told 48 = .ok (.istore_n 1, 1) := by decide +kernel
theorem dX10_told_49 : decode cX10_told 49 = .ok (.iinc 2 1, 3) := by decide +kernel
theorem dX10_told_52 : decode cX10_told 52 = .ok (.goto (-30), 3) := by decide +kernel
theorem dX10_told_55 : decode cX10_told 55 = .ok (.iload_n 1, 1) := by decide +kernel
theorem dX10_told_56 : decode cX10_told 56 = .ok (.ireturn, 1) := by decide +kernel
set_option maxRecDepth 20000 in
theorem ggX10_drill_X10_noRank : GoodIn wsX10_drill wsX10_noRank := goodIn_r _ [13, 14, 15, 16, 12, 17, 58, 59, 60, 61, 62, 63, 64, 65, 66, 67, 68, 69, 70, 71, 72, 73, 74, 75, 76, 77, 78, 79, 80, 81, 82, 83, 84, 85, 86, 87, 88] (by decide +kernel) (by decide +kernel)
set_option maxRecDepth 20000 in
theorem gX10_drill_X10_noRank : GoodIn wsX10_drill (wsV RX10 139 RX10 yX10_noRank wsX10_noRank) := goodIn_app (goodIn_of _ (by decide +kernel)) ggX10_drill_X10_noRank
set_option maxRecDepth 20000 in
theorem ggX10_drill_X10_in : GoodIn wsX10_drill wsX10_in := goodIn_r _ [17] (by decide +kernel) (by decide +kernel)
set_option maxRecDepth 20000 in
theorem gX10_drill_X10_in : GoodIn wsX10_drill (va_wsS RX10 79 yX10_in wsX10_in) := goodIn_app (goodIn_of _ (by decide +kernel)) ggX10_drill_X10_in
set_option maxRecDepth 20000 in
theorem ggX10_drill_X10_ten : GoodIn wsX10_drill wsX10_ten := goodIn_r _ [20, 4] (by decide +kernel) (by decide +kernel)
set_option maxRecDepth 20000 in
theorem gX10_drill_X10_ten : GoodIn wsX10_drill (va_wsS RX10 194 yX10_ten wsX10_ten) := goodIn_app (goodIn_of _ (by decide +kernel)) ggX10_drill_X10_ten
set_option maxRecDepth 20000 in
theorem ggX10_drill_X10_noOrder : GoodIn wsX10_drill wsX10_noOrder := goodIn_r _ [23, 24, 15, 16, 12, 17] (by decide +kernel) (by decide +kernel)
set_option maxRecDepth 20000 in
theorem gX10_drill_X10_noOrder : GoodIn wsX10_drill (va_wsS RX10 104 yX10_noOrder wsX10_noOrder) := goodIn_app (goodIn_of _ (by decide +kernel)) ggX10_drill_X10_noOrder
set_option maxRecDepth 20000 in
theorem ggX10_drill_X10_sayTo : GoodIn wsX10_drill wsX10_sayTo := goodIn_r _ [28, 29, 30, 31, 12, 32, 33, 34, 35, 36, 37, 38, 39, 40, 41, 58, 59, 60, 61, 62, 63, 64, 65, 66, 67, 68, 69, 70, 71, 72, 73, 74, 75, 76, 77, 78, 79, 80, 81, 82, 83, 84, 85, 86, 87, 88] (by decide +kernel) (by decide +kernel)
set_option maxRecDepth 20000 in
theorem gX10_drill_X10_sayTo : GoodIn wsX10_drill (wsV RX10 176 RX10 yX10_sayTo wsX10_sayTo) := goodIn_app (goodIn_of _ (by decide +kernel)) ggX10_drill_X10_sayTo
set_option maxRecDepth 20000 in
theorem ggX10_drill_X10_goMinute : GoodIn wsX10_drill wsX10_goMinute := goodIn_r _ [45, 46, 14, 47, 48, 49, 12, 50, 8, 51, 52, 4, 53, 54, 55, 56, 57, 29, 30, 31, 32, 33, 34, 35, 36, 37, 38, 39, 40, 41, 58, 59, 60, 61, 62, 63, 64, 65, 66, 67, 68, 69, 70, 71, 72, 73, 74, 75, 76, 77, 78, 79, 80, 81, 82, 83, 84, 85, 86, 87, 88] (by decide +kernel) (by decide +kernel)
set_option maxRecDepth 20000 in
theorem gX10_drill_X10_goMinute : GoodIn wsX10_drill (wsV RX10 180 RX10 yX10_goMinute wsX10_goMinute) := goodIn_app (goodIn_of _ (by decide +kernel)) ggX10_drill_X10_goMinute
theorem dX10_drill_0 : decode cX10_drill 0 = .ok (.aload_n 0, 1) := by decide +kernel
theorem dX10_drill_1 : decode cX10_drill 1 = .ok (.iconst 0, 1) := by decide +kernel
theorem dX10_drill_2 : decode cX10_drill 2 = .ok (.putfield 72, 3) := by decide +kernel
theorem dX10_drill_5 : decode cX10_drill 5 = .ok (.aload_n 0, 1) := by decide +kernel
theorem dX10_drill_6 : decode cX10_drill 6 = .ok (.iload_n 1, 1) := by decide +kernel
theorem dX10_drill_7 : decode cX10_drill 7 = .ok (.invokevirtual 139, 3) := by decide +kernel
theorem dX10_drill_10 : decode cX10_drill 10 = .ok (.ifCond .eq 5, 3) := by decide +kernel
theorem dX10_drill_13 : decode cX10_drill 13 = .ok (.iconst (-1), 1) := by decide +kernel
theorem dX10_drill_14 : decode cX10_drill 14 = .ok (.ireturn, 1) := by decide +kernel
theorem dX10_drill_15 : decode cX10_drill 15 = .ok (.iload_n 2, 1) := by decide +kernel
theorem dX10_drill_16 : decode cX10_drill 16 = .ok (.i2l, 1) := by decide +kernel
theorem dX10_drill_17 : decode cX10_drill 17 = .ok (.lconst 1, 1) := by decide +kernel
theorem dX10_drill_18 : decode cX10_drill 18 = .ok (.ldc2_w 223, 3) := by decide +kernel
theorem dX10_drill_21 : decode cX10_drill 21 = .ok (.invokestatic 79, 3) := by decide +kernel
theorem dX10_drill_24 : decode cX10_drill 24 = .ok (.ifCond .eq 31, 3) := by decide +kernel
theorem dX10_drill_27 : decode cX10_drill 27 = .ok (.iload 4, 2) := by decide +kernel
theorem dX10_drill_29 : decode cX10_drill 29 = .ok (.i2l, 1) := by decide +kernel
theorem dX10_drill_30 : decode cX10_drill 30 = .ok (.lconst 0, 1) := by decide +kernel
theorem dX10_drill_31 : decode cX10_drill 31 = .ok (.ldc2_w 225, 3) := by decide +kernel
theorem dX10_drill_34 : decode cX10_drill 34 = .ok (.invokestatic 79, 3) := by decide +kernel
theorem dX10_drill_37 : decode cX10_drill 37 = .ok (.ifCond .eq 18, 3) := by decide +kernel
theorem dX10_drill_40 : decode cX10_drill 40 = .ok (.iload_n 3, 1) := by decide +kernel
theorem dX10_drill_41 : decode cX10_drill 41 = .ok (.i2l, 1) := by decide +kernel
theorem dX10_drill_42 : decode cX10_drill 42 = .ok (.lconst 0, 1) := by decide +kernel
theorem dX10_drill_43 : decode cX10_drill 43 = .ok (.iload_n 2, 1) := by decide +kernel
theorem dX10_drill_44 : decode cX10_drill 44 = .ok (.invokestatic 194, 3) := by decide +kernel
theorem dX10_drill_47 : decode cX10_drill 47 = .ok (.lconst 1, 1) := by decide +kernel
theorem dX10_drill_48 : decode cX10_drill 48 = .ok (.lsub, 1) := by decide +kernel
theorem dX10_drill_49 : decode cX10_drill 49 = .ok (.invokestatic 79, 3) := by decide +kernel
theorem dX10_drill_52 : decode cX10_drill 52 = .ok (.ifCond .ne 6, 3) := by decide +kernel
theorem dX10_drill_55 : decode cX10_drill 55 = .ok (.bipush (-2), 2) := by decide +kernel
theorem dX10_drill_57 : decode cX10_drill 57 = .ok (.ireturn, 1) := by decide +kernel
theorem dX10_drill_58 : decode cX10_drill 58 = .ok (.iload_n 2, 1) := by decide +kernel
theorem dX10_drill_59 : decode cX10_drill 59 = .ok (.invokestatic 194, 3) := by decide +kernel
theorem dX10_drill_62 : decode cX10_drill 62 = .ok (.lstore 5, 2) := by decide +kernel
theorem dX10_drill_64 : decode cX10_drill 64 = .ok (.iconst 0, 1) := by decide +kernel
theorem dX10_drill_65 : decode cX10_drill 65 = .ok (.istore 7, 2) := by decide +kernel
theorem dX10_drill_67 : decode cX10_drill 67 = .ok (.iload 7, 2) := by decide +kernel
theorem dX10_drill_69 : decode cX10_drill 69 = .ok (.iload_n 2, 1) := by decide +kernel
theorem dX10_drill_70 : decode cX10_drill 70 = .ok (.if_icmp .ge 36, 3) := by decide +kernel
theorem dX10_drill_73 : decode cX10_drill 73 = .ok (.lload 5, 2) := by decide +kernel
theorem dX10_drill_75 : decode cX10_drill 75 = .ok (.ldc2_w 168, 3) := by decide +kernel
theorem dX10_drill_78 : decode cX10_drill 78 = .ok (.ldiv, 1) := by decide +kernel
theorem dX10_drill_79 : decode cX10_drill 79 = .ok (.lstore 5, 2) := by decide +kernel
theorem dX10_drill_81 : decode cX10_drill 81 = .ok (.iload_n 3, 1) := by decide +kernel
theorem dX10_drill_82 : decode cX10_drill 82 = .ok (.i2l, 1) := by decide +kernel
theorem dX10_drill_83 : decode cX10_drill 83 = .ok (.lload 5, 2) := by decide +kernel
theorem dX10_drill_85 : decode cX10_drill 85 = .ok (.ldiv, 1) := by decide +kernel
theorem dX10_drill_86 : decode cX10_drill 86 = .ok (.ldc2_w 168, 3) := by decide +kernel
theorem dX10_drill_89 : decode cX10_drill 89 = .ok (.lrem, 1) := by decide +kernel
theorem dX10_drill_90 : decode cX10_drill 90 = .ok (.l2i, 1) := by decide +kernel
theorem dX10_drill_91 : decode cX10_drill 91 = .ok (.invokestatic 104, 3) := by decide +kernel
theorem dX10_drill_94 : decode cX10_drill 94 = .ok (.ifCond .eq 6, 3) := by decide +kernel
theorem dX10_drill_97 : decode cX10_drill 97 = .ok (.bipush (-2), 2) := by decide +kernel
theorem dX10_drill_99 : decode cX10_drill 99 = .ok (.ireturn, 1) := by decide +kernel
theorem dX10_drill_100 : decode cX10_drill 100 = .ok (.iinc 7 1, 3) := by decide +kernel
theorem dX10_drill_103 : decode cX10_drill 103 = .ok (.goto (-36), 3) := by decide +kernel
theorem dX10_drill_106 : decode cX10_drill 106 = .ok (.iconst 0, 1) := by decide +kernel
theorem dX10_drill_107 : decode cX10_drill 107 = .ok (.istore 7, 2) := by decide +kernel
theorem dX10_drill_109 : decode cX10_drill 109 = .ok (.iload 7, 2) := by decide +kernel
theorem dX10_drill_111 : decode cX10_drill 111 = .ok (.bipush 50, 2) := by decide +kernel
theorem dX10_drill_113 : decode cX10_drill 113 = .ok (.if_icmp .ge 23, 3) := by decide +kernel
theorem dX10_drill_116 : decode cX10_drill 116 = .ok (.aload_n 0, 1) := by decide +kernel
theorem dX10_drill_117 : decode cX10_drill 117 = .ok (.getfield 54, 3) := by decide +kernel
theorem dX10_drill_120 : decode cX10_drill 120 = .ok (.iload 7, 2) := by decide +kernel
theorem dX10_drill_122 : decode cX10_drill 122 = .ok (.aload_n 0, 1) := by decide +kernel
theorem dX10_drill_123 : decode cX10_drill 123 = .ok (.getfield 25, 3) := by decide +kernel
theorem dX10_drill_126 : decode cX10_drill 126 = .ok (.iload 7, 2) := by decide +kernel
theorem dX10_drill_128 : decode cX10_drill 128 = .ok (.iaload, 1) := by decide +kernel
theorem dX10_drill_129 : decode cX10_drill 129 = .ok (.iastore, 1) := by decide +kernel
theorem dX10_drill_130 : decode cX10_drill 130 = .ok (.iinc 7 1, 3) := by decide +kernel
theorem dX10_drill_133 : decode cX10_drill 133 = .ok (.goto (-24), 3) := by decide +kernel
theorem dX10_drill_136 : decode cX10_drill 136 = .ok (.aload_n 0, 1) := by decide +kernel
theorem dX10_drill_137 : decode cX10_drill 137 = .ok (.aload_n 0, 1) := by decide +kernel
theorem dX10_drill_138 : decode cX10_drill 138 = .ok (.getfield 146, 3) := by decide +kernel
theorem dX10_drill_141 : decode cX10_drill 141 = .ok (.putfield 161, 3) := by decide +kernel
theorem dX10_drill_144 : decode cX10_drill 144 = .ok (.iload_n 2, 1) := by decide +kernel
theorem dX10_drill_145 : decode cX10_drill 145 = .ok (.invokestatic 194, 3) := by decide +kernel
theorem dX10_drill_148 : decode cX10_drill 148 = .ok (.lstore 5, 2) := by decide +kernel
theorem dX10_drill_150 : decode cX10_drill 150 = .ok (.iconst 0, 1) := by decide +kernel
theorem dX10_drill_151 : decode cX10_drill 151 = .ok (.istore 7, 2) := by decide +kernel
theorem dX10_drill_153 : decode cX10_drill 153 = .ok (.iload 7, 2) := by decide +kernel
theorem dX10_drill_155 : decode cX10_drill 155 = .ok (.iload_n 2, 1) := by decide +kernel
theorem dX10_drill_156 : decode cX10_drill 156 = .ok (.if_icmp .ge 43, 3) := by decide +kernel
theorem dX10_drill_159 : decode cX10_drill 159 = .ok (.lload 5, 2) := by decide +kernel
theorem dX10_drill_161 : decode cX10_drill 161 = .ok (.ldc2_w 168, 3) := by decide +kernel
theorem dX10_drill_164 : decode cX10_drill 164 = .ok (.ldiv, 1) := by decide +kernel
theorem dX10_drill_165 : decode cX10_drill 165 = .ok (.lstore 5, 2) := by decide +kernel
theorem dX10_drill_167 : decode cX10_drill 167 = .ok (.aload_n 0, 1) := by decide +kernel
theorem dX10_drill_168 : decode cX10_drill 168 = .ok (.aload_n 0, 1) := by decide +kernel
theorem dX10_drill_169 : decode cX10_drill 169 = .ok (.getfield 54, 3) := by decide +kernel
theorem dX10_drill_172 : decode cX10_drill 172 = .ok (.iload_n 3, 1) := by decide +kernel
theorem dX10_drill_173 : decode cX10_drill 173 = .ok (.i2l, 1) := by decide +kernel
theorem dX10_drill_174 : decode cX10_drill 174 = .ok (.lload 5, 2) := by decide +kernel
theorem dX10_drill_176 : decode cX10_drill 176 = .ok (.ldiv, 1) := by decide +kernel
theorem dX10_drill_177 : decode cX10_drill 177 = .ok (.ldc2_w 168, 3) := by decide +kernel
theorem dX10_drill_180 : decode cX10_drill 180 = .ok (.lrem, 1) := by decide +kernel
theorem dX10_drill_181 : decode cX10_drill 181 = .ok (.l2i, 1) := by decide +kernel
theorem dX10_drill_182 : decode cX10_drill 182 = .ok (.invokevirtual 176, 3) := by decide +kernel
theorem dX10_drill_185 : decode cX10_drill 185 = .ok (.aload_n 0, 1) := by decide +kernel
theorem dX10_drill_186 : decode cX10_drill 186 = .ok (.aload_n 0, 1) := by decide +kernel
theorem dX10_drill_187 : decode cX10_drill 187 = .ok (.getfield 54, 3) := by decide +kernel
theorem dX10_drill_190 : decode cX10_drill 190 = .ok (.invokevirtual 180, 3) := by decide +kernel
theorem dX10_drill_193 : decode cX10_drill 193 = .ok (.iinc 7 1, 3) := by decide +kernel
theorem dX10_drill_196 : decode cX10_drill 196 = .ok (.goto (-43), 3) := by decide +kernel
theorem dX10_drill_199 : decode cX10_drill 199 = .ok (.iconst 0, 1) := by decide +kernel
theorem dX10_drill_200 : decode cX10_drill 200 = .ok (.istore 7, 2) := by decide +kernel
theorem dX10_drill_202 : decode cX10_drill 202 = .ok (.iload 7, 2) := by decide +kernel
theorem dX10_drill_204 : decode cX10_drill 204 = .ok (.iload 4, 2) := by decide +kernel
theorem dX10_drill_206 : decode cX10_drill 206 = .ok (.if_icmp .ge 17, 3) := by decide +kernel
theorem dX10_drill_209 : decode cX10_drill 209 = .ok (.aload_n 0, 1) := by decide +kernel
theorem dX10_drill_210 : decode cX10_drill 210 = .ok (.aload_n 0, 1) := by decide +kernel
theorem dX10_drill_211 : decode cX10_drill 211 = .ok (.getfield 54, 3) := by decide +kernel
theorem dX10_drill_214 : decode cX10_drill 214 = .ok (.invokevirtual 180, 3) := by decide +kernel
theorem dX10_drill_217 : decode cX10_drill 217 = .ok (.iinc 7 1, 3) := by decide +kernel
theorem dX10_drill_220 : decode cX10_drill 220 = .ok (.goto (-18), 3) := by decide +kernel
theorem dX10_drill_223 : decode cX10_drill 223 = .ok (.sipush 1000, 3) := by decide +kernel
theorem dX10_drill_226 : decode cX10_drill 226 = .ok (.sipush 1000, 3) := by decide +kernel
theorem dX10_drill_229 : decode cX10_drill 229 = .ok (.aload_n 0, 1) := by decide +kernel
theorem dX10_drill_230 : decode cX10_drill 230 = .ok (.getfield 54, 3) := by decide +kernel
theorem dX10_drill_233 : decode cX10_drill 233 = .ok (.bipush 21, 2) := by decide +kernel
theorem dX10_drill_235 : decode cX10_drill 235 = .ok (.iload_n 1, 1) := by decide +kernel
theorem dX10_drill_236 : decode cX10_drill 236 = .ok (.iadd, 1) := by decide +kernel
theorem dX10_drill_237 : decode cX10_drill 237 = .ok (.iaload, 1) := by decide +kernel
theorem dX10_drill_238 : decode cX10_drill 238 = .ok (.iadd, 1) := by decide +kernel
theorem dX10_drill_239 : decode cX10_drill 239 = .ok (.imul, 1) := by decide +kernel
theorem dX10_drill_240 : decode cX10_drill 240 = .ok (.aload_n 0, 1) := by decide +kernel
theorem dX10_drill_241 : decode cX10_drill 241 = .ok (.getfield 54, 3) := by decide +kernel
theorem dX10_drill_244 : decode cX10_drill 244 = .ok (.bipush 28, 2) := by decide +kernel
theorem dX10_drill_246 : decode cX10_drill 246 = .ok (.iload_n 1, 1) := by decide +kernel
theorem dX10_drill_247 : decode cX10_drill 247 = .ok (.iadd, 1) := by decide +kernel
theorem dX10_drill_248 : decode cX10_drill 248 = .ok (.iaload, 1) := by decide +kernel
theorem dX10_drill_249 : decode cX10_drill 249 = .ok (.iadd, 1) := by decide +kernel
theorem dX10_drill_250 : decode cX10_drill 250 = .ok (.ireturn, 1) := by decide +kernel
set_option maxRecDepth 20000 in
theorem ggX10_keep_X10_in : GoodIn wsX10_keep wsX10_in := goodIn_r _ [10] (by decide +kernel) (by decide +kernel)
set_option maxRecDepth 20000 in
theorem gX10_keep_X10_in : GoodIn wsX10_keep (va_wsS RX10 79 yX10_in wsX10_in) := goodIn_app (goodIn_of _ (by decide +kernel)) ggX10_keep_X10_in
theorem dX10_keep_0 : decode cX10_keep 0 = .ok (.aload_n 0, 1) := by decide +kernel
theorem dX10_keep_1 : decode cX10_keep 1 = .ok (.iconst 0, 1) := by decide +kernel
theorem dX10_keep_2 : decode cX10_keep 2 = .ok (.putfield 72, 3) := by decide +kernel
theorem dX10_keep_5 : decode cX10_keep 5 = .ok (.iload_n 1, 1) := by decide +kernel
theorem dX10_keep_6 : decode cX10_keep 6 = .ok (.i2l, 1) := by decide +kernel
theorem dX10_keep_7 : decode cX10_keep 7 = .ok (.lconst 0, 1) := by decide +kernel
theorem dX10_keep_8 : decode cX10_keep 8 = .ok (.lconst 1, 1) := by decide +kernel
theorem dX10_keep_9 : decode cX10_keep 9 = .ok (.invokestatic 79, 3) := by decide +kernel
theorem dX10_keep_12 : decode cX10_keep 12 = .ok (.ifCond .ne 5, 3) := by decide +kernel
theorem dX10_keep_15 : decode cX10_keep 15 = .ok (.iconst (-1), 1) := by decide +kernel
theorem dX10_keep_16 : decode cX10_keep 16 = .ok (.ireturn, 1) := by decide +kernel
theorem dX10_keep_17 : decode cX10_keep 17 = .ok (.aload_n 0, 1) := by decide +kernel
theorem dX10_keep_18 : decode cX10_keep 18 = .ok (.getfield 41, 3) := by decide +kernel
theorem dX10_keep_21 : decode cX10_keep 21 = .ok (.iload_n 1, 1) := by decide +kernel
theorem dX10_keep_22 : decode cX10_keep 22 = .ok (.iconst 1, 1) := by decide +kernel
theorem dX10_keep_23 : decode cX10_keep 23 = .ok (.bastore, 1) := by decide +kernel
theorem dX10_keep_24 : decode cX10_keep 24 = .ok (.iconst 0, 1) := by decide +kernel
theorem dX10_keep_25 : decode cX10_keep 25 = .ok (.istore_n 2, 1) := by decide +kernel
theorem dX10_keep_26 : decode cX10_keep 26 = .ok (.iload_n 2, 1) := by decide +kernel
theorem dX10_keep_27 : decode cX10_keep 27 = .ok (.bipush 50, 2) := by decide +kernel
theorem dX10_keep_29 : decode cX10_keep 29 = .ok (.if_icmp .ge 26, 3) := by decide +kernel
theorem dX10_keep_32 : decode cX10_keep 32 = .ok (.aload_n 0, 1) := by decide +kernel
theorem dX10_keep_33 : decode cX10_keep 33 = .ok (.getfield 35, 3) := by decide +kernel
theorem dX10_keep_36 : decode cX10_keep 36 = .ok (.bipush 50, 2) := by decide +kernel
theorem dX10_keep_38 : decode cX10_keep 38 = .ok (.iload_n 1, 1) := by decide +kernel
theorem dX10_keep_39 : decode cX10_keep 39 = .ok (.imul, 1) := by decide +kernel
theorem dX10_keep_40 : decode cX10_keep 40 = .ok (.iload_n 2, 1) := by decide +kernel
theorem dX10_keep_41 : decode cX10_keep 41 = .ok (.iadd, 1) := by decide +kernel
theorem dX10_keep_42 : decode cX10_keep 42 = .ok (.aload_n 0, 1) := by decide +kernel
theorem dX10_keep_43 : decode cX10_keep 43 = .ok (.getfield 25, 3) := by decide +kernel
theorem dX10_keep_46 : decode cX10_keep 46 = .ok (.iload_n 2, 1) := by decide +kernel
theorem dX10_keep_47 : decode cX10_keep 47 = .ok (.iaload, 1) := by decide +kernel
theorem dX10_keep_48 : decode cX10_keep 48 = .ok (.iastore, 1) := by decide +kernel
theorem dX10_keep_49 : decode cX10_keep 49 = .ok (.iinc 2 1, 3) := by decide +kernel
theorem dX10_keep_52 : decode cX10_keep 52 = .ok (.goto (-26), 3) := by decide +kernel
theorem dX10_keep_55 : decode cX10_keep 55 = .ok (.aload_n 0, 1) := by decide +kernel
theorem dX10_keep_56 : decode cX10_keep 56 = .ok (.getfield 38, 3) := by decide +kernel
theorem dX10_keep_59 : decode cX10_keep 59 = .ok (.iload_n 1, 1) := by decide +kernel
theorem dX10_keep_60 : decode cX10_keep 60 = .ok (.aload_n 0, 1) := by decide +kernel
theorem dX10_keep_61 : decode cX10_keep 61 = .ok (.getfield 146, 3) := by decide +kernel
theorem dX10_keep_64 : decode cX10_keep 64 = .ok (.lastore, 1) := by decide +kernel
theorem dX10_keep_65 : decode cX10_keep 65 = .ok (.aload_n 0, 1) := by decide +kernel
theorem dX10_keep_66 : decode cX10_keep 66 = .ok (.getfield 25, 3) := by decide +kernel
theorem dX10_keep_69 : decode cX10_keep 69 = .ok (.bipush 49, 2) := by decide +kernel
theorem dX10_keep_71 : decode cX10_keep 71 = .ok (.iaload, 1) := by decide +kernel
theorem dX10_keep_72 : decode cX10_keep 72 = .ok (.ireturn, 1) := by decide +kernel
set_option maxRecDepth 20000 in
theorem ggX10_again_X10_in : GoodIn wsX10_again wsX10_in := goodIn_r _ [11] (by decide +kernel) (by decide +kernel)
set_option maxRecDepth 20000 in
theorem gX10_again_X10_in : GoodIn wsX10_again (va_wsS RX10 79 yX10_in wsX10_in) := goodIn_app (goodIn_of _ (by decide +kernel)) ggX10_again_X10_in
theorem dX10_again_0 : decode cX10_again 0 = .ok (.aload_n 0, 1) := by decide +kernel
theorem dX10_again_1 : decode cX10_again 1 = .ok (.iconst 0, 1) := by decide +kernel
theorem dX10_again_2 : decode cX10_again 2 = .ok (.putfield 72, 3) := by decide +kernel
theorem dX10_again_5 : decode cX10_again 5 = .ok (.iload_n 1, 1) := by decide +kernel
theorem dX10_again_6 : decode cX10_again 6 = .ok (.i2l, 1) := by decide +kernel
theorem dX10_again_7 : decode cX10_again 7 = .ok (.lconst 0, 1) := by decide +kernel
theorem dX10_again_8 : decode cX10_again 8 = .ok (.lconst 1, 1) := by decide +kernel
theorem dX10_again_9 : decode cX10_again 9 = .ok (.invokestatic 79, 3) := by decide +kernel
theorem dX10_again_12 : decode cX10_again 12 = .ok (.ifCond .ne 5, 3) := by decide +kernel
theorem dX10_again_15 : decode cX10_again 15 = .ok (.iconst (-1), 1) := by decide +kernel
theorem dX10_again_16 : decode cX10_again 16 = .ok (.ireturn, 1) := by decide +kernel
theorem dX10_again_17 : decode cX10_again 17 = .ok (.aload_n 0, 1) := by decide +kernel
theorem dX10_again_18 : decode cX10_again 18 = .ok (.getfield 41, 3) := by decide +kernel
theorem dX10_again_21 : decode cX10_again 21 = .ok (.iload_n 1, 1) := by decide +kernel
theorem dX10_again_22 : decode cX10_again 22 = .ok (.baload, 1) := by decide +kernel
theorem dX10_again_23 : decode cX10_again 23 = .ok (.ifCond .ne 6, 3) := by decide +kernel
theorem dX10_again_26 : decode cX10_again 26 = .ok (.bipush (-3), 2) := by decide +kernel
theorem dX10_again_28 : decode cX10_again 28 = .ok (.ireturn, 1) := by decide +kernel
theorem dX10_again_29 : decode cX10_again 29 = .ok (.iconst 0, 1) := by decide +kernel
theorem dX10_again_30 : decode cX10_again 30 = .ok (.istore_n 2, 1) := by decide +kernel
theorem dX10_again_31 : decode cX10_again 31 = .ok (.iload_n 2, 1) := by decide +kernel
theorem dX10_again_32 : decode cX10_again 32 = .ok (.bipush 50, 2) := by decide +kernel
theorem dX10_again_34 : decode cX10_again 34 = .ok (.if_icmp .ge 26, 3) := by decide +kernel
theorem dX10_again_37 : decode cX10_again 37 = .ok (.aload_n 0, 1) := by decide +kernel
theorem dX10_again_38 : decode cX10_again 38 = .ok (.getfield 25, 3) := by decide +kernel
theorem dX10_again_41 : decode cX10_again 41 = .ok (.iload_n 2, 1) := by decide +kernel
theorem dX10_again_42 : decode cX10_again 42 = .ok (.aload_n 0, 1) := by decide +kernel
theorem dX10_again_43 : decode cX10_again 43 = .ok (.getfield 35, 3) := by decide +kernel
theorem dX10_again_46 : decode cX10_again 46 = .ok (.bipush 50, 2) := by decide +kernel
theorem dX10_again_48 : decode cX10_again 48 = .ok (.iload_n 1, 1) := by decide +kernel
theorem dX10_again_49 : decode cX10_again 49 = .ok (.imul, 1) := by decide +kernel
theorem dX10_again_50 : decode cX10_again 50 = .ok (.iload_n 2, 1) := by decide +kernel
theorem dX10_again_51 : decode cX10_again 51 = .ok (.iadd, 1) := by decide +kernel
theorem dX10_again_52 : decode cX10_again 52 = .ok (.iaload, 1) := by decide +kernel
theorem dX10_again_53 : decode cX10_again 53 = .ok (.iastore, 1) := by decide +kernel
theorem dX10_again_54 : decode cX10_again 54 = .ok (.iinc 2 1, 3) := by decide +kernel
theorem dX10_again_57 : decode cX10_again 57 = .ok (.goto (-26), 3) := by decide +kernel
theorem dX10_again_60 : decode cX10_again 60 = .ok (.aload_n 0, 1) := by decide +kernel
theorem dX10_again_61 : decode cX10_again 61 = .ok (.aload_n 0, 1) := by decide +kernel
theorem dX10_again_62 : decode cX10_again 62 = .ok (.getfield 38, 3) := by decide +kernel
theorem dX10_again_65 : decode cX10_again 65 = .ok (.iload_n 1, 1) := by decide +kernel
theorem dX10_again_66 : decode cX10_again 66 = .ok (.laload, 1) := by decide +kernel
theorem dX10_again_67 : decode cX10_again 67 = .ok (.putfield 146, 3) := by decide +kernel
theorem dX10_again_70 : decode cX10_again 70 = .ok (.aload_n 0, 1) := by decide +kernel
theorem dX10_again_71 : decode cX10_again 71 = .ok (.iconst 0, 1) := by decide +kernel
theorem dX10_again_72 : decode cX10_again 72 = .ok (.putfield 133, 3) := by decide +kernel
theorem dX10_again_75 : decode cX10_again 75 = .ok (.aload_n 0, 1) := by decide +kernel
theorem dX10_again_76 : decode cX10_again 76 = .ok (.getfield 25, 3) := by decide +kernel
theorem dX10_again_79 : decode cX10_again 79 = .ok (.bipush 49, 2) := by decide +kernel
theorem dX10_again_81 : decode cX10_again 81 = .ok (.iaload, 1) := by decide +kernel
theorem dX10_again_82 : decode cX10_again 82 = .ok (.ireturn, 1) := by decide +kernel
