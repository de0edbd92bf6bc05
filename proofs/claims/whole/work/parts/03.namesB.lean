set_option maxRecDepth 20000 in
theorem ggX9_init_X7_init : GoodIn wsX9_init wsX7_init := goodIn_r _ [45, 46, 2, 3, 41, 47, 48, 130, 131] (by decide +kernel) (by decide +kernel)
set_option maxRecDepth 20000 in
theorem gX9_init_X7_init : GoodIn wsX9_init (wsX7_init) := ggX9_init_X7_init
set_option maxRecDepth 20000 in
theorem ggX9_init_X3_init : GoodIn wsX9_init wsX3_init := goodIn_r _ [51, 52, 2, 3, 53, 13, 14, 54, 55, 56, 57, 58, 59, 60, 61, 62, 41, 63, 64, 65, 66, 148, 149, 150, 151, 143, 144, 145, 146, 147] (by decide +kernel) (by decide +kernel)
set_option maxRecDepth 20000 in
theorem gX9_init_X3_init : GoodIn wsX9_init (wsX3_init) := ggX9_init_X3_init
set_option maxRecDepth 20000 in
theorem ggX9_init_X1_init : GoodIn wsX9_init wsX1_init := goodIn_r _ [61, 62, 2, 3, 41, 63, 64, 65, 66, 148, 149, 150, 151] (by decide +kernel) (by decide +kernel)
set_option maxRecDepth 20000 in
theorem gX9_init_X1_init : GoodIn wsX9_init (wsX1_init) := ggX9_init_X1_init
set_option maxRecDepth 20000 in
theorem ggX9_init_X5_init : GoodIn wsX9_init wsX5_init := goodIn_r _ [70, 71, 2, 3, 41, 72, 73, 74, 75, 76, 77, 78, 79, 80, 81, 152, 153, 154, 155, 156, 157, 158, 159, 160] (by decide +kernel) (by decide +kernel)
set_option maxRecDepth 20000 in
theorem gX9_init_X5_init : GoodIn wsX9_init (wsX5_init) := ggX9_init_X5_init
set_option maxRecDepth 20000 in
theorem ggX9_init_X0_init : GoodIn wsX9_init wsX0_init := goodIn_r _ [84, 85, 2, 3, 86, 87, 88, 89, 17, 18, 90, 69, 70, 71, 41, 72, 73, 74, 75, 76, 77, 78, 79, 80, 81, 161, 162, 163, 152, 153, 154, 155, 156, 157, 158, 159, 160] (by decide +kernel) (by decide +kernel)
set_option maxRecDepth 20000 in
theorem gX9_init_X0_init : GoodIn wsX9_init (wsX0_init) := ggX9_init_X0_init
set_option maxRecDepth 20000 in
theorem ggX9_init_X6_init : GoodIn wsX9_init wsX6_init := goodIn_r _ [93, 94, 2, 3, 95, 96, 78, 97, 17, 18, 98, 69, 70, 71, 41, 72, 73, 74, 75, 76, 77, 79, 80, 81, 164, 165, 152, 153, 154, 155, 156, 157, 158, 159, 160] (by decide +kernel) (by decide +kernel)
set_option maxRecDepth 20000 in
theorem gX9_init_X6_init : GoodIn wsX9_init (wsX6_init) := ggX9_init_X6_init
set_option maxRecDepth 20000 in
theorem ggX9_init_X8_init : GoodIn wsX9_init wsX8_init := goodIn_r _ [101, 102, 2, 3, 41, 103, 104, 78, 105, 106, 166, 167, 168, 169] (by decide +kernel) (by decide +kernel)
set_option maxRecDepth 20000 in
theorem gX9_init_X8_init : GoodIn wsX9_init (wsX8_init) := ggX9_init_X8_init
set_option maxRecDepth 20000 in
theorem ggX9_init_X2_init : GoodIn wsX9_init wsX2_init := goodIn_r _ [109, 110, 2, 3, 111, 112, 113, 114, 170, 171, 172] (by decide +kernel) (by decide +kernel)
set_option maxRecDepth 20000 in
theorem gX9_init_X2_init : GoodIn wsX9_init (wsX2_init) := ggX9_init_X2_init
set_option maxRecDepth 20000 in
theorem ggX9_init_X4_init : GoodIn wsX9_init wsX4_init := goodIn_r _ [117, 118, 2, 3, 41, 119, 120, 173, 174] (by decide +kernel) (by decide +kernel)
set_option maxRecDepth 20000 in
theorem gX9_init_X4_init : GoodIn wsX9_init (wsX4_init) := ggX9_init_X4_init
set_option maxRecDepth 20000 in
theorem ggX9_init_X5_setUp : GoodIn wsX9_init wsX5_setUp := goodIn_r _ [124, 72, 73, 74, 75, 76, 77, 79, 125, 80, 126, 127, 128, 14, 129, 65, 152, 153, 154, 155, 156, 157, 158, 159, 160, 148, 149, 150, 151] (by decide +kernel) (by decide +kernel)
set_option maxRecDepth 20000 in
theorem gX9_init_X5_setUp : GoodIn wsX9_init (wsV RX9 79 RX5 yX5_setUp wsX5_setUp) := goodIn_app (goodIn_of _ (by decide +kernel)) ggX9_init_X5_setUp
theorem dX9_init_0 : decode cX9_init 0 = .ok (.aload_n 0, 1) := by decide +kernel
theorem dX9_init_1 : decode cX9_init 1 = .ok (.invokespecial 1, 3) := by decide +kernel
theorem dX9_init_4 : decode cX9_init 4 = .ok (.aload_n 0, 1) := by decide +kernel
theorem dX9_init_5 : decode cX9_init 5 = .ok (.new 7, 3) := by decide +kernel
theorem dX9_init_8 : decode cX9_init 8 = .ok (.dup, 1) := by decide +kernel
theorem dX9_init_9 : decode cX9_init 9 = .ok (.invokespecial 9, 3) := by decide +kernel
theorem dX9_init_12 : decode cX9_init 12 = .ok (.putfield 10, 3) := by decide +kernel
theorem dX9_init_15 : decode cX9_init 15 = .ok (.aload_n 0, 1) := by decide +kernel
theorem dX9_init_16 : decode cX9_init 16 = .ok (.new 16, 3) := by decide +kernel
theorem dX9_init_19 : decode cX9_init 19 = .ok (.dup, 1) := by decide +kernel
theorem dX9_init_20 : decode cX9_init 20 = .ok (.invokespecial 18, 3) := by decide +kernel
theorem dX9_init_23 : decode cX9_init 23 = .ok (.putfield 19, 3) := by decide +kernel
theorem dX9_init_26 : decode cX9_init 26 = .ok (.aload_n 0, 1) := by decide +kernel
theorem dX9_init_27 : decode cX9_init 27 = .ok (.new 23, 3) := by decide +kernel
theorem dX9_init_30 : decode cX9_init 30 = .ok (.dup, 1) := by decide +kernel
theorem dX9_init_31 : decode cX9_init 31 = .ok (.invokespecial 25, 3) := by decide +kernel
theorem dX9_init_34 : decode cX9_init 34 = .ok (.putfield 26, 3) := by decide +kernel
theorem dX9_init_37 : decode cX9_init 37 = .ok (.aload_n 0, 1) := by decide +kernel
theorem dX9_init_38 : decode cX9_init 38 = .ok (.new 30, 3) := by decide +kernel
theorem dX9_init_41 : decode cX9_init 41 = .ok (.dup, 1) := by decide +kernel
theorem dX9_init_42 : decode cX9_init 42 = .ok (.invokespecial 32, 3) := by decide +kernel
theorem dX9_init_45 : decode cX9_init 45 = .ok (.putfield 33, 3) := by decide +kernel
theorem dX9_init_48 : decode cX9_init 48 = .ok (.aload_n 0, 1) := by decide +kernel
theorem dX9_init_49 : decode cX9_init 49 = .ok (.new 30, 3) := by decide +kernel
theorem dX9_init_52 : decode cX9_init 52 = .ok (.dup, 1) := by decide +kernel
theorem dX9_init_53 : decode cX9_init 53 = .ok (.invokespecial 32, 3) := by decide +kernel
theorem dX9_init_56 : decode cX9_init 56 = .ok (.putfield 37, 3) := by decide +kernel
theorem dX9_init_59 : decode cX9_init 59 = .ok (.aload_n 0, 1) := by decide +kernel
theorem dX9_init_60 : decode cX9_init 60 = .ok (.new 40, 3) := by decide +kernel
theorem dX9_init_63 : decode cX9_init 63 = .ok (.dup, 1) := by decide +kernel
theorem dX9_init_64 : decode cX9_init 64 = .ok (.invokespecial 42, 3) := by decide +kernel
theorem dX9_init_67 : decode cX9_init 67 = .ok (.putfield 43, 3) := by decide +kernel
theorem dX9_init_70 : decode cX9_init 70 = .ok (.aload_n 0, 1) := by decide +kernel
theorem dX9_init_71 : decode cX9_init 71 = .ok (.new 47, 3) := by decide +kernel
theorem dX9_init_74 : decode cX9_init 74 = .ok (.dup, 1) := by decide +kernel
theorem dX9_init_75 : decode cX9_init 75 = .ok (.invokespecial 49, 3) := by decide +kernel
theorem dX9_init_78 : decode cX9_init 78 = .ok (.putfield 50, 3) := by decide +kernel
theorem dX9_init_81 : decode cX9_init 81 = .ok (.aload_n 0, 1) := by decide +kernel
theorem dX9_init_82 : decode cX9_init 82 = .ok (.new 54, 3) := by decide +kernel
theorem dX9_init_85 : decode cX9_init 85 = .ok (.dup, 1) := by decide +kernel
theorem dX9_init_86 : decode cX9_init 86 = .ok (.invokespecial 56, 3) := by decide +kernel
theorem dX9_init_89 : decode cX9_init 89 = .ok (.putfield 57, 3) := by decide +kernel
theorem dX9_init_92 : decode cX9_init 92 = .ok (.aload_n 0, 1) := by decide +kernel
theorem dX9_init_93 : decode cX9_init 93 = .ok (.new 61, 3) := by decide +kernel
theorem dX9_init_96 : decode cX9_init 96 = .ok (.dup, 1) := by decide +kernel
theorem dX9_init_97 : decode cX9_init 97 = .ok (.invokespecial 63, 3) := by decide +kernel
theorem dX9_init_100 : decode cX9_init 100 = .ok (.putfield 64, 3) := by decide +kernel
theorem dX9_init_103 : decode cX9_init 103 = .ok (.aload_n 0, 1) := by decide +kernel
theorem dX9_init_104 : decode cX9_init 104 = .ok (.new 68, 3) := by decide +kernel
theorem dX9_init_107 : decode cX9_init 107 = .ok (.dup, 1) := by decide +kernel
theorem dX9_init_108 : decode cX9_init 108 = .ok (.invokespecial 70, 3) := by decide +kernel
theorem dX9_init_111 : decode cX9_init 111 = .ok (.putfield 71, 3) := by decide +kernel
theorem dX9_init_114 : decode cX9_init 114 = .ok (.aload_n 0, 1) := by decide +kernel
theorem dX9_init_115 : decode cX9_init 115 = .ok (.iconst 5, 1) := by decide +kernel
theorem dX9_init_116 : decode cX9_init 116 = .ok (.newarray .int, 2) := by decide +kernel
theorem dX9_init_118 : decode cX9_init 118 = .ok (.putfield 75, 3) := by decide +kernel
theorem dX9_init_121 : decode cX9_init 121 = .ok (.aload_n 0, 1) := by decide +kernel
theorem dX9_init_122 : decode cX9_init 122 = .ok (.getfield 33, 3) := by decide +kernel
theorem dX9_init_125 : decode cX9_init 125 = .ok (.aload_n 0, 1) := by decide +kernel
theorem dX9_init_126 : decode cX9_init 126 = .ok (.getfield 26, 3) := by decide +kernel
theorem dX9_init_129 : decode cX9_init 129 = .ok (.invokevirtual 79, 3) := by decide +kernel
theorem dX9_init_132 : decode cX9_init 132 = .ok (.return_, 1) := by decide +kernel
set_option maxRecDepth 20000 in
theorem ggX9_write_X7_hasRoomFor : GoodIn wsX9_write wsX7_hasRoomFor := goodIn_r _ [7, 8, 25, 26] (by decide +kernel) (by decide +kernel)
set_option maxRecDepth 20000 in
theorem gX9_write_X7_hasRoomFor : GoodIn wsX9_write (wsV RX9 83 RX7 yX7_hasRoomFor wsX7_hasRoomFor) := goodIn_app (goodIn_of _ (by decide +kernel)) ggX9_write_X7_hasRoomFor
set_option maxRecDepth 20000 in
theorem ggX9_write_X7_append : GoodIn wsX9_write wsX7_append := goodIn_r _ [12, 8, 13, 25, 26] (by decide +kernel) (by decide +kernel)
set_option maxRecDepth 20000 in
theorem gX9_write_X7_append : GoodIn wsX9_write (wsV RX9 87 RX7 yX7_append wsX7_append) := goodIn_app (goodIn_of _ (by decide +kernel)) ggX9_write_X7_append
theorem dX9_write_0 : decode cX9_write 0 = .ok (.iload_n 1, 1) := by decide +kernel
theorem dX9_write_1 : decode cX9_write 1 = .ok (.iconst 1, 1) := by decide +kernel
theorem dX9_write_2 : decode cX9_write 2 = .ok (.if_icmp .lt 9, 3) := by decide +kernel
theorem dX9_write_5 : decode cX9_write 5 = .ok (.iload_n 1, 1) := by decide +kernel
theorem dX9_write_6 : decode cX9_write 6 = .ok (.bipush 8, 2) := by decide +kernel
theorem dX9_write_8 : decode cX9_write 8 = .ok (.if_icmp .le 6, 3) := by decide +kernel
theorem dX9_write_11 : decode cX9_write 11 = .ok (.bipush (-2), 2) := by decide +kernel
theorem dX9_write_13 : decode cX9_write 13 = .ok (.ireturn, 1) := by decide +kernel
theorem dX9_write_14 : decode cX9_write 14 = .ok (.aload_n 0, 1) := by decide +kernel
theorem dX9_write_15 : decode cX9_write 15 = .ok (.getfield 10, 3) := by decide +kernel
theorem dX9_write_18 : decode cX9_write 18 = .ok (.iload_n 1, 1) := by decide +kernel
theorem dX9_write_19 : decode cX9_write 19 = .ok (.invokevirtual 83, 3) := by decide +kernel
theorem dX9_write_22 : decode cX9_write 22 = .ok (.ifCond .ne 6, 3) := by decide +kernel
theorem dX9_write_25 : decode cX9_write 25 = .ok (.bipush (-4), 2) := by decide +kernel
theorem dX9_write_27 : decode cX9_write 27 = .ok (.ireturn, 1) := by decide +kernel
theorem dX9_write_28 : decode cX9_write 28 = .ok (.aload_n 0, 1) := by decide +kernel
theorem dX9_write_29 : decode cX9_write 29 = .ok (.getfield 10, 3) := by decide +kernel
theorem dX9_write_32 : decode cX9_write 32 = .ok (.iload_n 1, 1) := by decide +kernel
theorem dX9_write_33 : decode cX9_write 33 = .ok (.lload_n 2, 1) := by decide +kernel
theorem dX9_write_34 : decode cX9_write 34 = .ok (.invokevirtual 87, 3) := by decide +kernel
theorem dX9_write_37 : decode cX9_write 37 = .ok (.aload_n 0, 1) := by decide +kernel
theorem dX9_write_38 : decode cX9_write 38 = .ok (.getfield 10, 3) := by decide +kernel
theorem dX9_write_41 : decode cX9_write 41 = .ok (.getfield 91, 3) := by decide +kernel
theorem dX9_write_44 : decode cX9_write 44 = .ok (.ireturn, 1) := by decide +kernel
set_option maxRecDepth 20000 in
theorem ggX9_wipe_X7_clear : GoodIn wsX9_wipe wsX7_clear := goodIn_r _ [7, 8, 20, 21] (by decide +kernel) (by decide +kernel)
set_option maxRecDepth 20000 in
theorem gX9_wipe_X7_clear : GoodIn wsX9_wipe (wsV RX9 95 RX7 yX7_clear wsX7_clear) := goodIn_app (goodIn_of _ (by decide +kernel)) ggX9_wipe_X7_clear
theorem dX9_wipe_0 : decode cX9_wipe 0 = .ok (.aload_n 0, 1) := by decide +kernel
theorem dX9_wipe_1 : decode cX9_wipe 1 = .ok (.getfield 10, 3) := by decide +kernel
theorem dX9_wipe_4 : decode cX9_wipe 4 = .ok (.getfield 91, 3) := by decide +kernel
theorem dX9_wipe_7 : decode cX9_wipe 7 = .ok (.istore_n 1, 1) := by decide +kernel
theorem dX9_wipe_8 : decode cX9_wipe 8 = .ok (.aload_n 0, 1) := by decide +kernel
theorem dX9_wipe_9 : decode cX9_wipe 9 = .ok (.getfield 10, 3) := by decide +kernel
theorem dX9_wipe_12 : decode cX9_wipe 12 = .ok (.invokevirtual 95, 3) := by decide +kernel
theorem dX9_wipe_15 : decode cX9_wipe 15 = .ok (.iload_n 1, 1) := by decide +kernel
theorem dX9_wipe_16 : decode cX9_wipe 16 = .ok (.ireturn, 1) := by decide +kernel
set_option maxRecDepth 20000 in
theorem ggX9_fault_X3_firstFault : GoodIn wsX9_fault wsX3_firstFault := goodIn_r _ [7, 8, 9, 10, 11, 12, 13, 14, 15, 16, 17, 18, 19, 20, 21, 22, 6, 23, 24, 25, 26, 27, 28, 29, 30, 31, 32, 33, 34, 35, 36, 37, 38, 39, 40, 41, 42, 43, 44, 45, 46, 47, 48, 49, 50, 51, 52, 53, 54, 55, 56, 57, 58, 59, 60, 61, 62, 63, 64, 65, 66, 67, 68, 69, 70, 71, 72, 73, 74, 75, 76, 77, 78, 79, 80, 81, 82, 83, 84, 85, 86, 87, 88, 89, 90, 91, 92, 104, 105, 106, 107, 108, 109, 110, 111, 112, 113, 114] (by decide +kernel) (by decide +kernel)
set_option maxRecDepth 20000 in
theorem gX9_fault_X3_firstFault : GoodIn wsX9_fault (wsV RX9 98 RX3 yX3_firstFault wsX3_firstFault) := goodIn_app (goodIn_of _ (by decide +kernel)) ggX9_fault_X3_firstFault
theorem dX9_fault_0 : decode cX9_fault 0 = .ok (.aload_n 0, 1) := by decide +kernel
theorem dX9_fault_1 : decode cX9_fault 1 = .ok (.getfield 19, 3) := by decide +kernel
theorem dX9_fault_4 : decode cX9_fault 4 = .ok (.aload_n 0, 1) := by decide +kernel
theorem dX9_fault_5 : decode cX9_fault 5 = .ok (.getfield 10, 3) := by decide +kernel
theorem dX9_fault_8 : decode cX9_fault 8 = .ok (.invokevirtual 98, 3) := by decide +kernel
theorem dX9_fault_11 : decode cX9_fault 11 = .ok (.ireturn, 1) := by decide +kernel
set_option maxRecDepth 20000 in
theorem ggX9_army_X3_firstFault : GoodIn wsX9_army wsX3_firstFault := goodIn_r _ [13, 14, 15, 16, 17, 18, 19, 20, 21, 22, 23, 24, 25, 26, 27, 28, 12, 29, 30, 31, 32, 33, 34, 35, 36, 37, 38, 39, 40, 41, 42, 43, 44, 45, 46, 47, 48, 49, 50, 51, 52, 53, 54, 55, 56, 57, 58, 59, 60, 61, 62, 63, 64, 65, 66, 67, 68, 69, 70, 71, 72, 73, 74, 75, 76, 77, 78, 79, 80, 81, 82, 83, 84, 85, 86, 87, 88, 89, 90, 91, 92, 93, 94, 95, 96, 97, 98, 145, 146, 147, 148, 149, 154, 155, 150, 151, 152, 153] (by decide +kernel) (by decide +kernel)
set_option maxRecDepth 20000 in
theorem gX9_army_X3_firstFault : GoodIn wsX9_army (wsV RX9 98 RX3 yX3_firstFault wsX3_firstFault) := goodIn_app (goodIn_of _ (by decide +kernel)) ggX9_army_X3_firstFault
set_option maxRecDepth 20000 in
theorem ggX9_army_X1_copyFrom : GoodIn wsX9_army wsX1_copyFrom := goodIn_r _ [102, 47, 103, 104, 105, 106, 23, 24, 25, 150, 151, 152, 153] (by decide +kernel) (by decide +kernel)
set_option maxRecDepth 20000 in
theorem gX9_army_X1_copyFrom : GoodIn wsX9_army (wsV RX9 105 RX1 yX1_copyFrom wsX1_copyFrom) := goodIn_app (goodIn_of _ (by decide +kernel)) ggX9_army_X1_copyFrom
set_option maxRecDepth 20000 in
theorem ggX9_army_X5_setUp : GoodIn wsX9_army wsX5_setUp := goodIn_r _ [111, 112, 113, 114, 115, 116, 117, 118, 119, 120, 121, 54, 55, 21, 56, 24, 156, 157, 158, 159, 160, 161, 162, 163, 164, 150, 151, 152, 153] (by decide +kernel) (by decide +kernel)
set_option maxRecDepth 20000 in
theorem gX9_army_X5_setUp : GoodIn wsX9_army (wsV RX9 79 RX5 yX5_setUp wsX5_setUp) := goodIn_app (goodIn_of _ (by decide +kernel)) ggX9_army_X5_setUp
set_option maxRecDepth 20000 in
theorem ggX9_army_X0_clear : GoodIn wsX9_army wsX0_clear := goodIn_r _ [126, 127, 165, 166, 167] (by decide +kernel) (by decide +kernel)
set_option maxRecDepth 20000 in
theorem gX9_army_X0_clear : GoodIn wsX9_army (wsV RX9 108 RX0 yX0_clear wsX0_clear) := goodIn_app (goodIn_of _ (by decide +kernel)) ggX9_army_X0_clear
set_option maxRecDepth 20000 in
theorem ggX9_army_X6_clear : GoodIn wsX9_army wsX6_clear := goodIn_r _ [132, 133, 168, 169] (by decide +kernel) (by decide +kernel)
set_option maxRecDepth 20000 in
theorem gX9_army_X6_clear : GoodIn wsX9_army (wsV RX9 109 RX6 yX6_clear wsX6_clear) := goodIn_app (goodIn_of _ (by decide +kernel)) ggX9_army_X6_clear
theorem dX9_army_0 : decode cX9_army 0 = .ok (.aload_n 0, 1) := by decide +kernel
theorem dX9_army_1 : decode cX9_army 1 = .ok (.getfield 19, 3) := by decide +kernel
theorem dX9_army_4 : decode cX9_army 4 = .ok (.aload_n 0, 1) := by decide +kernel
theorem dX9_army_5 : decode cX9_army 5 = .ok (.getfield 10, 3) := by decide +kernel
theorem dX9_army_8 : decode cX9_army 8 = .ok (.invokevirtual 98, 3) := by decide +kernel
theorem dX9_army_11 : decode cX9_army 11 = .ok (.bipush (-9), 2) := by decide +kernel
theorem dX9_army_13 : decode cX9_army 13 = .ok (.if_icmp .eq 6, 3) := by decide +kernel
theorem dX9_army_16 : decode cX9_army 16 = .ok (.bipush (-3), 2) := by decide +kernel
theorem dX9_army_18 : decode cX9_army 18 = .ok (.ireturn, 1) := by decide +kernel
theorem dX9_army_19 : decode cX9_army 19 = .ok (.aload_n 0, 1) := by decide +kernel
theorem dX9_army_20 : decode cX9_army 20 = .ok (.getfield 26, 3) := by decide +kernel
theorem dX9_army_23 : decode cX9_army 23 = .ok (.aload_n 0, 1) := by decide +kernel
theorem dX9_army_24 : decode cX9_army 24 = .ok (.getfield 19, 3) := by decide +kernel
theorem dX9_army_27 : decode cX9_army 27 = .ok (.getfield 102, 3) := by decide +kernel
theorem dX9_army_30 : decode cX9_army 30 = .ok (.invokevirtual 105, 3) := by decide +kernel
theorem dX9_army_33 : decode cX9_army 33 = .ok (.aload_n 0, 1) := by decide +kernel
theorem dX9_army_34 : decode cX9_army 34 = .ok (.getfield 33, 3) := by decide +kernel
theorem dX9_army_37 : decode cX9_army 37 = .ok (.aload_n 0, 1) := by decide +kernel
theorem dX9_army_38 : decode cX9_army 38 = .ok (.getfield 26, 3) := by decide +kernel
theorem dX9_army_41 : decode cX9_army 41 = .ok (.invokevirtual 79, 3) := by decide +kernel
theorem dX9_army_44 : decode cX9_army 44 = .ok (.aload_n 0, 1) := by decide +kernel
theorem dX9_army_45 : decode cX9_army 45 = .ok (.getfield 43, 3) := by decide +kernel
theorem dX9_army_48 : decode cX9_army 48 = .ok (.invokevirtual 108, 3) := by decide +kernel
theorem dX9_army_51 : decode cX9_army 51 = .ok (.aload_n 0, 1) := by decide +kernel
theorem dX9_army_52 : decode cX9_army 52 = .ok (.getfield 50, 3) := by decide +kernel
theorem dX9_army_55 : decode cX9_army 55 = .ok (.invokevirtual 109, 3) := by decide +kernel
theorem dX9_army_58 : decode cX9_army 58 = .ok (.aload_n 0, 1) := by decide +kernel
theorem dX9_army_59 : decode cX9_army 59 = .ok (.getfield 26, 3) := by decide +kernel
theorem dX9_army_62 : decode cX9_army 62 = .ok (.getfield 110, 3) := by decide +kernel
theorem dX9_army_65 : decode cX9_army 65 = .ok (.ireturn, 1) := by decide +kernel
set_option maxRecDepth 20000 in
theorem ggX9_about_X5_sleepers : GoodIn wsX9_about wsX5_sleepers := goodIn_r _ [16, 17, 18, 35, 36, 37, 38, 39, 40, 41, 42, 43, 44, 45, 46, 47] (by decide +kernel) (by decide +kernel)
set_option maxRecDepth 20000 in
theorem gX9_about_X5_sleepers : GoodIn wsX9_about (wsV RX9 119 RX5 yX5_sleepers wsX5_sleepers) := goodIn_app (goodIn_of _ (by decide +kernel)) ggX9_about_X5_sleepers
set_option maxRecDepth 20000 in
theorem ggX9_about_X5_hearers : GoodIn wsX9_about wsX5_hearers := goodIn_r _ [22, 17, 23, 35, 36, 37, 38, 39, 40, 41, 42, 43, 44, 45, 46, 47] (by decide +kernel) (by decide +kernel)
set_option maxRecDepth 20000 in
theorem gX9_about_X5_hearers : GoodIn wsX9_about (wsV RX9 123 RX5 yX5_hearers wsX5_hearers) := goodIn_app (goodIn_of _ (by decide +kernel)) ggX9_about_X5_hearers
theorem dX9_about_0 : decode cX9_about 0 = .ok (.iload_n 1, 1) := by decide +kernel
theorem dX9_about_1 : decode cX9_about 1 = .ok (.tableswitch 119 0 7 #[47, 55, 63, 71, 83, 95, 103, 111], 47) := by decide +kernel
theorem dX9_about_48 : decode cX9_about 48 = .ok (.aload_n 0, 1) := by decide +kernel
theorem dX9_about_49 : decode cX9_about 49 = .ok (.getfield 26, 3) := by decide +kernel
theorem dX9_about_52 : decode cX9_about 52 = .ok (.getfield 110, 3) := by decide +kernel
theorem dX9_about_55 : decode cX9_about 55 = .ok (.ireturn, 1) := by decide +kernel
theorem dX9_about_56 : decode cX9_about 56 = .ok (.aload_n 0, 1) := by decide +kernel
theorem dX9_about_57 : decode cX9_about 57 = .ok (.getfield 26, 3) := by decide +kernel
theorem dX9_about_60 : decode cX9_about 60 = .ok (.getfield 113, 3) := by decide +kernel
theorem dX9_about_63 : decode cX9_about 63 = .ok (.ireturn, 1) := by decide +kernel
theorem dX9_about_64 : decode cX9_about 64 = .ok (.aload_n 0, 1) := by decide +kernel
theorem dX9_about_65 : decode cX9_about 65 = .ok (.getfield 33, 3) := by decide +kernel
theorem dX9_about_68 : decode cX9_about 68 = .ok (.getfield 116, 3) := by decide +kernel
theorem dX9_about_71 : decode cX9_about 71 = .ok (.ireturn, 1) := by decide +kernel
theorem dX9_about_72 : decode cX9_about 72 = .ok (.aload_n 0, 1) := by decide +kernel
theorem dX9_about_73 : decode cX9_about 73 = .ok (.getfield 33, 3) := by decide +kernel
theorem dX9_about_76 : decode cX9_about 76 = .ok (.aload_n 0, 1) := by decide +kernel
theorem dX9_about_77 : decode cX9_about 77 = .ok (.getfield 26, 3) := by decide +kernel
theorem dX9_about_80 : decode cX9_about 80 = .ok (.invokevirtual 119, 3) := by decide +kernel
theorem dX9_about_83 : decode cX9_about 83 = .ok (.ireturn, 1) := by decide +kernel
theorem dX9_about_84 : decode cX9_about 84 = .ok (.aload_n 0, 1) := by decide +kernel
theorem dX9_about_85 : decode cX9_about 85 = .ok (.getfield 33, 3) := by decide +kernel
theorem dX9_about_88 : decode cX9_about 88 = .ok (.aload_n 0, 1) := by decide +kernel
theorem dX9_about_89 : decode cX9_about 89 = .ok (.getfield 26, 3) := by decide +kernel
theorem dX9_about_92 : decode cX9_about 92 = .ok (.invokevirtual 123, 3) := by decide +kernel
theorem dX9_about_95 : decode cX9_about 95 = .ok (.ireturn, 1) := by decide +kernel
theorem dX9_about_96 : decode cX9_about 96 = .ok (.aload_n 0, 1) := by decide +kernel
theorem dX9_about_97 : decode cX9_about 97 = .ok (.getfield 43, 3) := by decide +kernel
theorem dX9_about_100 : decode cX9_about 100 = .ok (.getfield 126, 3) := by decide +kernel
theorem dX9_about_103 : decode cX9_about 103 = .ok (.ireturn, 1) := by decide +kernel
theorem dX9_about_104 : decode cX9_about 104 = .ok (.aload_n 0, 1) := by decide +kernel
theorem dX9_about_105 : decode cX9_about 105 = .ok (.getfield 57, 3) := by decide +kernel
theorem dX9_about_108 : decode cX9_about 108 = .ok (.getfield 129, 3) := by decide +kernel
theorem dX9_about_111 : decode cX9_about 111 = .ok (.ireturn, 1) := by decide +kernel
theorem dX9_about_112 : decode cX9_about 112 = .ok (.aload_n 0, 1) := by decide +kernel
theorem dX9_about_113 : decode cX9_about 113 = .ok (.getfield 10, 3) := by decide +kernel
theorem dX9_about_116 : decode cX9_about 116 = .ok (.getfield 91, 3) := by decide +kernel
theorem dX9_about_119 : decode cX9_about 119 = .ok (.ireturn, 1) := by decide +kernel
theorem dX9_about_120 : decode cX9_about 120 = .ok (.bipush (-2), 2) := by decide +kernel
theorem dX9_about_122 : decode cX9_about 122 = .ok (.ireturn, 1) := by decide +kernel
set_option maxRecDepth 20000 in
theorem ggX9_rank_X1_has : GoodIn wsX9_rank wsX1_has := goodIn_r _ [13, 14, 32, 33, 34, 35] (by decide +kernel) (by decide +kernel)
set_option maxRecDepth 20000 in
theorem gX9_rank_X1_has : GoodIn wsX9_rank (wsV RX9 130 RX1 yX1_has wsX1_has) := goodIn_app (goodIn_of _ (by decide +kernel)) ggX9_rank_X1_has
set_option maxRecDepth 20000 in
theorem ggX9_rank_X5_eastAndThousand : GoodIn wsX9_rank wsX5_eastAndThousand := goodIn_r _ [19, 20, 36, 37, 38, 39, 40, 41, 42, 43, 44] (by decide +kernel) (by decide +kernel)
set_option maxRecDepth 20000 in
theorem gX9_rank_X5_eastAndThousand : GoodIn wsX9_rank (wsV RX9 145 RX5 yX5_eastAndThousand wsX5_eastAndThousand) := goodIn_app (goodIn_of _ (by decide +kernel)) ggX9_rank_X5_eastAndThousand
theorem dX9_rank_0 : decode cX9_rank 0 = .ok (.aload_n 0, 1) := by decide +kernel
theorem dX9_rank_1 : decode cX9_rank 1 = .ok (.getfield 26, 3) := by decide +kernel
theorem dX9_rank_4 : decode cX9_rank 4 = .ok (.iload_n 1, 1) := by decide +kernel
theorem dX9_rank_5 : decode cX9_rank 5 = .ok (.invokevirtual 130, 3) := by decide +kernel
theorem dX9_rank_8 : decode cX9_rank 8 = .ok (.ifCond .ne 5, 3) := by decide +kernel
theorem dX9_rank_11 : decode cX9_rank 11 = .ok (.iconst (-1), 1) := by decide +kernel
theorem dX9_rank_12 : decode cX9_rank 12 = .ok (.ireturn, 1) := by decide +kernel
theorem dX9_rank_13 : decode cX9_rank 13 = .ok (.iload_n 2, 1) := by decide +kernel
theorem dX9_rank_14 : decode cX9_rank 14 = .ok (.tableswitch 111 0 6 #[42, 52, 62, 72, 82, 91, 101], 42) := by decide +kernel
theorem dX9_rank_56 : decode cX9_rank 56 = .ok (.aload_n 0, 1) := by decide +kernel
theorem dX9_rank_57 : decode cX9_rank 57 = .ok (.getfield 26, 3) := by decide +kernel
theorem dX9_rank_60 : decode cX9_rank 60 = .ok (.getfield 133, 3) := by decide +kernel
theorem dX9_rank_63 : decode cX9_rank 63 = .ok (.iload_n 1, 1) := by decide +kernel
theorem dX9_rank_64 : decode cX9_rank 64 = .ok (.iaload, 1) := by decide +kernel
theorem dX9_rank_65 : decode cX9_rank 65 = .ok (.ireturn, 1) := by decide +kernel
theorem dX9_rank_66 : decode cX9_rank 66 = .ok (.aload_n 0, 1) := by decide +kernel
theorem dX9_rank_67 : decode cX9_rank 67 = .ok (.getfield 33, 3) := by decide +kernel
theorem dX9_rank_70 : decode cX9_rank 70 = .ok (.getfield 136, 3) := by decide +kernel
theorem dX9_rank_73 : decode cX9_rank 73 = .ok (.iload_n 1, 1) := by decide +kernel
theorem dX9_rank_74 : decode cX9_rank 74 = .ok (.iaload, 1) := by decide +kernel
theorem dX9_rank_75 : decode cX9_rank 75 = .ok (.ireturn, 1) := by decide +kernel
theorem dX9_rank_76 : decode cX9_rank 76 = .ok (.aload_n 0, 1) := by decide +kernel
theorem dX9_rank_77 : decode cX9_rank 77 = .ok (.getfield 33, 3) := by decide +kernel
theorem dX9_rank_80 : decode cX9_rank 80 = .ok (.getfield 139, 3) := by decide +kernel
theorem dX9_rank_83 : decode cX9_rank 83 = .ok (.iload_n 1, 1) := by decide +kernel
theorem dX9_rank_84 : decode cX9_rank 84 = .ok (.iaload, 1) := by decide +kernel
theorem dX9_rank_85 : decode cX9_rank 85 = .ok (.ireturn, 1) := by decide +kernel
theorem dX9_rank_86 : decode cX9_rank 86 = .ok (.aload_n 0, 1) := by decide +kernel
theorem dX9_rank_87 : decode cX9_rank 87 = .ok (.getfield 33, 3) := by decide +kernel
theorem dX9_rank_90 : decode cX9_rank 90 = .ok (.getfield 142, 3) := by decide +kernel
theorem dX9_rank_93 : decode cX9_rank 93 = .ok (.iload_n 1, 1) := by decide +kernel
theorem dX9_rank_94 : decode cX9_rank 94 = .ok (.iaload, 1) := by decide +kernel
theorem dX9_rank_95 : decode cX9_rank 95 = .ok (.ireturn, 1) := by decide +kernel
theorem dX9_rank_96 : decode cX9_rank 96 = .ok (.aload_n 0, 1) := by decide +kernel
theorem dX9_rank_97 : decode cX9_rank 97 = .ok (.getfield 33, 3) := by decide +kernel
theorem dX9_rank_100 : decode cX9_rank 100 = .ok (.iload_n 1, 1) := by decide +kernel
theorem dX9_rank_101 : decode cX9_rank 101 = .ok (.invokevirtual 145, 3) := by decide +kernel
theorem dX9_rank_104 : decode cX9_rank 104 = .ok (.ireturn, 1) := by decide +kernel
theorem dX9_rank_105 : decode cX9_rank 105 = .ok (.aload_n 0, 1) := by decide +kernel
theorem dX9_rank_106 : decode cX9_rank 106 = .ok (.getfield 33, 3) := by decide +kernel
theorem dX9_rank_109 : decode cX9_rank 109 = .ok (.getfield 149, 3) := by decide +kernel
theorem dX9_rank_112 : decode cX9_rank 112 = .ok (.iload_n 1, 1) := by decide +kernel
theorem dX9_rank_113 : decode cX9_rank 113 = .ok (.iaload, 1) := by decide +kernel
theorem dX9_rank_114 : decode cX9_rank 114 = .ok (.ireturn, 1) := by decide +kernel
theorem dX9_rank_115 : decode cX9_rank 115 = .ok (.aload_n 0, 1) := by decide +kernel
theorem dX9_rank_116 : decode cX9_rank 116 = .ok (.getfield 33, 3) := by decide +kernel
theorem dX9_rank_119 : decode cX9_rank 119 = .ok (.getfield 152, 3) := by decide +kernel
theorem dX9_rank_122 : decode cX9_rank 122 = .ok (.iload_n 1, 1) := by decide +kernel
theorem dX9_rank_123 : decode cX9_rank 123 = .ok (.iaload, 1) := by decide +kernel
theorem dX9_rank_124 : decode cX9_rank 124 = .ok (.ireturn, 1) := by decide +kernel
theorem dX9_rank_125 : decode cX9_rank 125 = .ok (.bipush (-2), 2) := by decide +kernel
theorem dX9_rank_127 : decode cX9_rank 127 = .ok (.ireturn, 1) := by decide +kernel
set_option maxRecDepth 20000 in
theorem ggX9_slip_X1_has : GoodIn wsX9_slip wsX1_has := goodIn_r _ [6, 7, 39, 40, 41, 42] (by decide +kernel) (by decide +kernel)
set_option maxRecDepth 20000 in
theorem gX9_slip_X1_has : GoodIn wsX9_slip (wsV RX9 130 RX1 yX1_has wsX1_has) := goodIn_app (goodIn_of _ (by decide +kernel)) ggX9_slip_X1_has
set_option maxRecDepth 20000 in
theorem ggX9_slip_X9_isOrder : GoodIn wsX9_slip wsX9_isOrder := goodIn_r _ [11] (by decide +kernel) (by decide +kernel)
set_option maxRecDepth 20000 in
theorem gX9_slip_X9_isOrder : GoodIn wsX9_slip (va_wsS RX9 155 yX9_isOrder wsX9_isOrder) := goodIn_app (goodIn_of _ (by decide +kernel)) ggX9_slip_X9_isOrder
set_option maxRecDepth 20000 in
theorem ggX9_slip_X1_wayTenths : GoodIn wsX9_slip wsX1_wayTenths := goodIn_r _ [15, 16, 17, 18, 5, 19, 20, 21, 22, 23, 24, 25, 26, 27, 39, 40, 41, 42] (by decide +kernel) (by decide +kernel)
set_option maxRecDepth 20000 in
theorem gX9_slip_X1_wayTenths : GoodIn wsX9_slip (wsV RX9 158 RX1 yX1_wayTenths wsX1_wayTenths) := goodIn_app (goodIn_of _ (by decide +kernel)) ggX9_slip_X1_wayTenths
theorem dX9_slip_0 : decode cX9_slip 0 = .ok (.aload_n 0, 1) := by decide +kernel
theorem dX9_slip_1 : decode cX9_slip 1 = .ok (.getfield 26, 3) := by decide +kernel
theorem dX9_slip_4 : decode cX9_slip 4 = .ok (.iload_n 1, 1) := by decide +kernel
theorem dX9_slip_5 : decode cX9_slip 5 = .ok (.invokevirtual 130, 3) := by decide +kernel
theorem dX9_slip_8 : decode cX9_slip 8 = .ok (.ifCond .eq 17, 3) := by decide +kernel
theorem dX9_slip_11 : decode cX9_slip 11 = .ok (.iload_n 2, 1) := by decide +kernel
theorem dX9_slip_12 : decode cX9_slip 12 = .ok (.invokestatic 155, 3) := by decide +kernel
theorem dX9_slip_15 : decode cX9_slip 15 = .ok (.ifCond .eq 10, 3) := by decide +kernel
theorem dX9_slip_18 : decode cX9_slip 18 = .ok (.iload_n 3, 1) := by decide +kernel
theorem dX9_slip_19 : decode cX9_slip 19 = .ok (.invokestatic 155, 3) := by decide +kernel
theorem dX9_slip_22 : decode cX9_slip 22 = .ok (.ifCond .ne 5, 3) := by decide +kernel
theorem dX9_slip_25 : decode cX9_slip 25 = .ok (.iconst (-1), 1) := by decide +kernel
theorem dX9_slip_26 : decode cX9_slip 26 = .ok (.ireturn, 1) := by decide +kernel
theorem dX9_slip_27 : decode cX9_slip 27 = .ok (.aload_n 0, 1) := by decide +kernel
theorem dX9_slip_28 : decode cX9_slip 28 = .ok (.getfield 26, 3) := by decide +kernel
theorem dX9_slip_31 : decode cX9_slip 31 = .ok (.iload_n 1, 1) := by decide +kernel
theorem dX9_slip_32 : decode cX9_slip 32 = .ok (.iload_n 2, 1) := by decide +kernel
theorem dX9_slip_33 : decode cX9_slip 33 = .ok (.iload_n 3, 1) := by decide +kernel
theorem dX9_slip_34 : decode cX9_slip 34 = .ok (.invokevirtual 158, 3) := by decide +kernel
theorem dX9_slip_37 : decode cX9_slip 37 = .ok (.ireturn, 1) := by decide +kernel
theorem dX9_seed_0 : decode cX9_seed 0 = .ok (.aload_n 0, 1) := by decide +kernel
theorem dX9_seed_1 : decode cX9_seed 1 = .ok (.getfield 33, 3) := by decide +kernel
theorem dX9_seed_4 : decode cX9_seed 4 = .ok (.getfield 162, 3) := by decide +kernel
theorem dX9_seed_7 : decode cX9_seed 7 = .ok (.lstore_n 3, 1) := by decide +kernel
theorem dX9_seed_8 : decode cX9_seed 8 = .ok (.aload_n 0, 1) := by decide +kernel
theorem dX9_seed_9 : decode cX9_seed 9 = .ok (.getfield 33, 3) := by decide +kernel
theorem dX9_seed_12 : decode cX9_seed 12 = .ok (.lload_n 1, 1) := by decide +kernel
theorem dX9_seed_13 : decode cX9_seed 13 = .ok (.putfield 162, 3) := by decide +kernel
theorem dX9_seed_16 : decode cX9_seed 16 = .ok (.lload_n 3, 1) := by decide +kernel
theorem dX9_seed_17 : decode cX9_seed 17 = .ok (.lreturn, 1) := by decide +kernel
set_option maxRecDepth 20000 in
theorem ggX9_say_X9_isOrder : GoodIn wsX9_say wsX9_isOrder := goodIn_r _ [9] (by decide +kernel) (by decide +kernel)
set_option maxRecDepth 20000 in
theorem gX9_say_X9_isOrder : GoodIn wsX9_say (va_wsS RX9 155 yX9_isOrder wsX9_isOrder) := goodIn_app (goodIn_of _ (by decide +kernel)) ggX9_say_X9_isOrder
set_option maxRecDepth 20000 in
theorem ggX9_say_X0_note : GoodIn wsX9_say wsX0_note := goodIn_r _ [14, 15, 16, 17, 18, 19, 20, 21, 22, 23, 24, 25, 26, 27, 28, 29, 30, 31, 75, 76, 77, 66, 67, 68, 69, 70, 71, 72, 73, 74] (by decide +kernel) (by decide +kernel)
set_option maxRecDepth 20000 in
theorem gX9_say_X0_note : GoodIn wsX9_say (wsV RX9 166 RX0 yX0_note wsX0_note) := goodIn_app (goodIn_of _ (by decide +kernel)) ggX9_say_X0_note
set_option maxRecDepth 20000 in
theorem ggX9_say_X5_giveOrder : GoodIn wsX9_say wsX5_giveOrder := goodIn_r _ [35, 25, 36, 37, 38, 21, 39, 29, 40, 41, 42, 43, 44, 45, 46, 47, 48, 49, 24, 23, 50, 26, 66, 67, 68, 69, 70, 71, 72, 73, 74, 62, 63, 64, 65] (by decide +kernel) (by decide +kernel)
set_option maxRecDepth 20000 in
theorem gX9_say_X5_giveOrder : GoodIn wsX9_say (wsV RX9 170 RX5 yX5_giveOrder wsX5_giveOrder) := goodIn_app (goodIn_of _ (by decide +kernel)) ggX9_say_X5_giveOrder
theorem dX9_say_0 : decode cX9_say 0 = .ok (.iload_n 1, 1) := by decide +kernel
theorem dX9_say_1 : decode cX9_say 1 = .ok (.invokestatic 155, 3) := by decide +kernel
theorem dX9_say_4 : decode cX9_say 4 = .ok (.ifCond .ne 5, 3) := by decide +kernel
theorem dX9_say_7 : decode cX9_say 7 = .ok (.iconst (-1), 1) := by decide +kernel
theorem dX9_say_8 : decode cX9_say 8 = .ok (.ireturn, 1) := by decide +kernel
theorem dX9_say_9 : decode cX9_say 9 = .ok (.aload_n 0, 1) := by decide +kernel
theorem dX9_say_10 : decode cX9_say 10 = .ok (.getfield 26, 3) := by decide +kernel
theorem dX9_say_13 : decode cX9_say 13 = .ok (.getfield 110, 3) := by decide +kernel
theorem dX9_say_16 : decode cX9_say 16 = .ok (.ifCond .ne 6, 3) := by decide +kernel
theorem dX9_say_19 : decode cX9_say 19 = .ok (.bipush (-3), 2) := by decide +kernel
theorem dX9_say_21 : decode cX9_say 21 = .ok (.ireturn, 1) := by decide +kernel
theorem dX9_say_22 : decode cX9_say 22 = .ok (.aload_n 0, 1) := by decide +kernel
theorem dX9_say_23 : decode cX9_say 23 = .ok (.getfield 43, 3) := by decide +kernel
theorem dX9_say_26 : decode cX9_say 26 = .ok (.aload_n 0, 1) := by decide +kernel
theorem dX9_say_27 : decode cX9_say 27 = .ok (.getfield 33, 3) := by decide +kernel
theorem dX9_say_30 : decode cX9_say 30 = .ok (.invokevirtual 166, 3) := by decide +kernel
theorem dX9_say_33 : decode cX9_say 33 = .ok (.aload_n 0, 1) := by decide +kernel
theorem dX9_say_34 : decode cX9_say 34 = .ok (.getfield 33, 3) := by decide +kernel
theorem dX9_say_37 : decode cX9_say 37 = .ok (.aload_n 0, 1) := by decide +kernel
theorem dX9_say_38 : decode cX9_say 38 = .ok (.getfield 26, 3) := by decide +kernel
theorem dX9_say_41 : decode cX9_say 41 = .ok (.iload_n 1, 1) := by decide +kernel
theorem dX9_say_42 : decode cX9_say 42 = .ok (.invokevirtual 170, 3) := by decide +kernel
theorem dX9_say_45 : decode cX9_say 45 = .ok (.aload_n 0, 1) := by decide +kernel
theorem dX9_say_46 : decode cX9_say 46 = .ok (.getfield 33, 3) := by decide +kernel
theorem dX9_say_49 : decode cX9_say 49 = .ok (.getfield 142, 3) := by decide +kernel
theorem dX9_say_52 : decode cX9_say 52 = .ok (.iconst 0, 1) := by decide +kernel
theorem dX9_say_53 : decode cX9_say 53 = .ok (.iaload, 1) := by decide +kernel
theorem dX9_say_54 : decode cX9_say 54 = .ok (.ireturn, 1) := by decide +kernel
set_option maxRecDepth 20000 in
theorem ggX9_minute_X0_note : GoodIn wsX9_minute wsX0_note := goodIn_r _ [9, 10, 11, 12, 13, 14, 15, 16, 17, 18, 19, 20, 21, 22, 23, 24, 25, 26, 95, 96, 97, 86, 87, 88, 89, 90, 91, 92, 93, 94] (by decide +kernel) (by decide +kernel)
set_option maxRecDepth 20000 in
theorem gX9_minute_X0_note : GoodIn wsX9_minute (wsV RX9 166 RX0 yX0_note wsX0_note) := goodIn_app (goodIn_of _ (by decide +kernel)) ggX9_minute_X0_note
set_option maxRecDepth 20000 in
theorem ggX9_minute_X5_passMinute : GoodIn wsX9_minute wsX5_passMinute := goodIn_r _ [30, 31, 20, 25, 32, 33, 34, 16, 35, 36, 37, 38, 39, 40, 41, 42, 43, 44, 45, 46, 47, 48, 49, 50, 51, 52, 26, 53, 54, 55, 56, 57, 58, 59, 60, 24, 61, 62, 63, 64, 65, 66, 67, 68, 69, 19, 18, 70, 21, 71, 72, 73, 74, 23, 22, 98, 99, 100, 101, 86, 87, 88, 89, 90, 91, 92, 93, 94] (by decide +kernel) (by decide +kernel)
set_option maxRecDepth 20000 in
theorem gX9_minute_X5_passMinute : GoodIn wsX9_minute (wsV RX9 174 RX5 yX5_passMinute wsX5_passMinute) := goodIn_app (goodIn_of _ (by decide +kernel)) ggX9_minute_X5_passMinute
theorem dX9_minute_0 : decode cX9_minute 0 = .ok (.aload_n 0, 1) := by decide +kernel
theorem dX9_minute_1 : decode cX9_minute 1 = .ok (.getfield 43, 3) := by decide +kernel
theorem dX9_minute_4 : decode cX9_minute 4 = .ok (.aload_n 0, 1) := by decide +kernel
theorem dX9_minute_5 : decode cX9_minute 5 = .ok (.getfield 33, 3) := by decide +kernel
theorem dX9_minute_8 : decode cX9_minute 8 = .ok (.invokevirtual 166, 3) := by decide +kernel
theorem dX9_minute_11 : decode cX9_minute 11 = .ok (.aload_n 0, 1) := by decide +kernel
theorem dX9_minute_12 : decode cX9_minute 12 = .ok (.getfield 33, 3) := by decide +kernel
theorem dX9_minute_15 : decode cX9_minute 15 = .ok (.aload_n 0, 1) := by decide +kernel
theorem dX9_minute_16 : decode cX9_minute 16 = .ok (.getfield 26, 3) := by decide +kernel
theorem dX9_minute_19 : decode cX9_minute 19 = .ok (.invokevirtual 174, 3) := by decide +kernel
theorem dX9_minute_22 : decode cX9_minute 22 = .ok (.aload_n 0, 1) := by decide +kernel
theorem dX9_minute_23 : decode cX9_minute 23 = .ok (.getfield 33, 3) := by decide +kernel
theorem dX9_minute_26 : decode cX9_minute 26 = .ok (.getfield 116, 3) := by decide +kernel
theorem dX9_minute_29 : decode cX9_minute 29 = .ok (.ireturn, 1) := by decide +kernel
set_option maxRecDepth 20000 in
theorem ggX9_bugle_X0_note : GoodIn wsX9_bugle wsX0_note := goodIn_r _ [8, 9, 10, 11, 12, 13, 14, 15, 16, 17, 18, 19, 20, 21, 22, 23, 24, 25, 47, 48, 49, 50, 51, 52, 53, 54, 55, 56, 57, 58] (by decide +kernel) (by decide +kernel)
set_option maxRecDepth 20000 in
theorem gX9_bugle_X0_note : GoodIn wsX9_bugle (wsV RX9 166 RX0 yX0_note wsX0_note) := goodIn_app (goodIn_of _ (by decide +kernel)) ggX9_bugle_X0_note
set_option maxRecDepth 20000 in
theorem ggX9_bugle_X5_blowBugle : GoodIn wsX9_bugle wsX5_blowBugle := goodIn_r _ [29, 30, 23, 31, 32, 33, 15, 34, 18, 17, 35, 20, 59, 60, 61, 62, 50, 51, 52, 53, 54, 55, 56, 57, 58] (by decide +kernel) (by decide +kernel)
set_option maxRecDepth 20000 in
theorem gX9_bugle_X5_blowBugle : GoodIn wsX9_bugle (wsV RX9 177 RX5 yX5_blowBugle wsX5_blowBugle) := goodIn_app (goodIn_of _ (by decide +kernel)) ggX9_bugle_X5_blowBugle
theorem dX9_bugle_0 : decode cX9_bugle 0 = .ok (.aload_n 0, 1) := by decide +kernel
theorem dX9_bugle_1 : decode cX9_bugle 1 = .ok (.getfield 43, 3) := by decide +kernel
theorem dX9_bugle_4 : decode cX9_bugle 4 = .ok (.aload_n 0, 1) := by decide +kernel
theorem dX9_bugle_5 : decode cX9_bugle 5 = .ok (.getfield 33, 3) := by decide +kernel
theorem dX9_bugle_8 : decode cX9_bugle 8 = .ok (.invokevirtual 166, 3) := by decide +kernel
theorem dX9_bugle_11 : decode cX9_bugle 11 = .ok (.aload_n 0, 1) := by decide +kernel
theorem dX9_bugle_12 : decode cX9_bugle 12 = .ok (.getfield 33, 3) := by decide +kernel
theorem dX9_bugle_15 : decode cX9_bugle 15 = .ok (.aload_n 0, 1) := by decide +kernel
theorem dX9_bugle_16 : decode cX9_bugle 16 = .ok (.getfield 26, 3) := by decide +kernel
theorem dX9_bugle_19 : decode cX9_bugle 19 = .ok (.invokevirtual 177, 3) := by decide +kernel
theorem dX9_bugle_22 : decode cX9_bugle 22 = .ok (.ireturn, 1) := by decide +kernel
set_option maxRecDepth 20000 in
theorem ggX9_undo_X0_takeBack : GoodIn wsX9_undo wsX0_takeBack := goodIn_r _ [8, 9, 10, 11, 12, 13, 14, 15, 16, 17, 18, 19, 20, 21, 22, 23, 24, 25, 37, 38, 39, 40, 41, 42, 43, 44, 45, 46, 47, 48] (by decide +kernel) (by decide +kernel)
set_option maxRecDepth 20000 in
theorem gX9_undo_X0_takeBack : GoodIn wsX9_undo (wsV RX9 180 RX0 yX0_takeBack wsX0_takeBack) := goodIn_app (goodIn_of _ (by decide +kernel)) ggX9_undo_X0_takeBack
theorem dX9_undo_0 : decode cX9_undo 0 = .ok (.aload_n 0, 1) := by decide +kernel
theorem dX9_undo_1 : decode cX9_undo 1 = .ok (.getfield 43, 3) := by decide +kernel
theorem dX9_undo_4 : decode cX9_undo 4 = .ok (.getfield 126, 3) := by decide +kernel
theorem dX9_undo_7 : decode cX9_undo 7 = .ok (.ifCond .ne 6, 3) := by decide +kernel
theorem dX9_undo_10 : decode cX9_undo 10 = .ok (.bipush (-3), 2) := by decide +kernel
theorem dX9_undo_12 : decode cX9_undo 12 = .ok (.ireturn, 1) := by decide +kernel
theorem dX9_undo_13 : decode cX9_undo 13 = .ok (.aload_n 0, 1) := by decide +kernel
theorem dX9_undo_14 : decode cX9_undo 14 = .ok (.getfield 43, 3) := by decide +kernel
theorem dX9_undo_17 : decode cX9_undo 17 = .ok (.aload_n 0, 1) := by decide +kernel
theorem dX9_undo_18 : decode cX9_undo 18 = .ok (.getfield 33, 3) := by decide +kernel
theorem dX9_undo_21 : decode cX9_undo 21 = .ok (.invokevirtual 180, 3) := by decide +kernel
theorem dX9_undo_24 : decode cX9_undo 24 = .ok (.aload_n 0, 1) := by decide +kernel
theorem dX9_undo_25 : decode cX9_undo 25 = .ok (.getfield 43, 3) := by decide +kernel
theorem dX9_undo_28 : decode cX9_undo 28 = .ok (.getfield 126, 3) := by decide +kernel
theorem dX9_undo_31 : decode cX9_undo 31 = .ok (.ireturn, 1) := by decide +kernel
set_option maxRecDepth 20000 in
theorem ggX9_heard_X1_has : GoodIn wsX9_heard wsX1_has := goodIn_r _ [10, 11, 74, 75, 76, 77] (by decide +kernel) (by decide +kernel)
set_option maxRecDepth 20000 in
theorem gX9_heard_X1_has : GoodIn wsX9_heard (wsV RX9 130 RX1 yX1_has wsX1_has) := goodIn_app (goodIn_of _ (by decide +kernel)) ggX9_heard_X1_has
set_option maxRecDepth 20000 in
theorem ggX9_heard_X9_isOrder : GoodIn wsX9_heard wsX9_isOrder := goodIn_r _ [15] (by decide +kernel) (by decide +kernel)
set_option maxRecDepth 20000 in
theorem gX9_heard_X9_isOrder : GoodIn wsX9_heard (va_wsS RX9 155 yX9_isOrder wsX9_isOrder) := goodIn_app (goodIn_of _ (by decide +kernel)) ggX9_heard_X9_isOrder
set_option maxRecDepth 20000 in
theorem ggX9_heard_X2_spread : GoodIn wsX9_heard wsX2_spread := goodIn_r _ [20, 21, 22, 23, 24, 25, 26, 9, 27, 28, 29, 30, 31, 19, 32, 33, 34, 35, 36, 37, 38, 39, 40, 41, 42, 43, 44, 45, 46, 47, 48, 49, 50, 51, 52, 53, 71, 72, 73, 74, 75, 76, 77] (by decide +kernel) (by decide +kernel)
set_option maxRecDepth 20000 in
theorem gX9_heard_X2_spread : GoodIn wsX9_heard (wsV RX9 185 RX2 yX2_spread wsX2_spread) := goodIn_app (goodIn_of _ (by decide +kernel)) ggX9_heard_X2_spread
set_option maxRecDepth 20000 in
theorem ggX9_heard_X9_inLeastTerms : GoodIn wsX9_heard wsX9_inLeastTerms := goodIn_r _ [56, 57, 58, 14, 59] (by decide +kernel) (by decide +kernel)
set_option maxRecDepth 20000 in
theorem gX9_heard_X9_inLeastTerms : GoodIn wsX9_heard (va_wsS RX9 196 yX9_inLeastTerms wsX9_inLeastTerms) := goodIn_app (goodIn_of _ (by decide +kernel)) ggX9_heard_X9_inLeastTerms
theorem dX9_heard_0 : decode cX9_heard 0 = .ok (.aload_n 0, 1) := by decide +kernel
theorem dX9_heard_1 : decode cX9_heard 1 = .ok (.getfield 26, 3) := by decide +kernel
theorem dX9_heard_4 : decode cX9_heard 4 = .ok (.iload_n 1, 1) := by decide +kernel
theorem dX9_heard_5 : decode cX9_heard 5 = .ok (.invokevirtual 130, 3) := by decide +kernel
theorem dX9_heard_8 : decode cX9_heard 8 = .ok (.ifCond .eq 17, 3) := by decide +kernel
theorem dX9_heard_11 : decode cX9_heard 11 = .ok (.iload_n 2, 1) := by decide +kernel
theorem dX9_heard_12 : decode cX9_heard 12 = .ok (.invokestatic 155, 3) := by decide +kernel
theorem dX9_heard_15 : decode cX9_heard 15 = .ok (.ifCond .eq 10, 3) := by decide +kernel
theorem dX9_heard_18 : decode cX9_heard 18 = .ok (.iload_n 3, 1) := by decide +kernel
theorem dX9_heard_19 : decode cX9_heard 19 = .ok (.invokestatic 155, 3) := by decide +kernel
theorem dX9_heard_22 : decode cX9_heard 22 = .ok (.ifCond .ne 7, 3) := by decide +kernel
theorem dX9_heard_25 : decode cX9_heard 25 = .ok (.ldc2_w 183, 3) := by decide +kernel
theorem dX9_heard_28 : decode cX9_heard 28 = .ok (.lreturn, 1) := by decide +kernel
theorem dX9_heard_29 : decode cX9_heard 29 = .ok (.aload_n 0, 1) := by decide +kernel
theorem dX9_heard_30 : decode cX9_heard 30 = .ok (.getfield 64, 3) := by decide +kernel
theorem dX9_heard_33 : decode cX9_heard 33 = .ok (.aload_n 0, 1) := by decide +kernel
theorem dX9_heard_34 : decode cX9_heard 34 = .ok (.getfield 26, 3) := by decide +kernel
theorem dX9_heard_37 : decode cX9_heard 37 = .ok (.iconst 0, 1) := by decide +kernel
theorem dX9_heard_38 : decode cX9_heard 38 = .ok (.iload_n 1, 1) := by decide +kernel
theorem dX9_heard_39 : decode cX9_heard 39 = .ok (.iload_n 2, 1) := by decide +kernel
theorem dX9_heard_40 : decode cX9_heard 40 = .ok (.invokevirtual 185, 3) := by decide +kernel
theorem dX9_heard_43 : decode cX9_heard 43 = .ok (.aload_n 0, 1) := by decide +kernel
theorem dX9_heard_44 : decode cX9_heard 44 = .ok (.getfield 64, 3) := by decide +kernel
theorem dX9_heard_47 : decode cX9_heard 47 = .ok (.getfield 189, 3) := by decide +kernel
theorem dX9_heard_50 : decode cX9_heard 50 = .ok (.iload_n 3, 1) := by decide +kernel
theorem dX9_heard_51 : decode cX9_heard 51 = .ok (.laload, 1) := by decide +kernel
theorem dX9_heard_52 : decode cX9_heard 52 = .ok (.aload_n 0, 1) := by decide +kernel
theorem dX9_heard_53 : decode cX9_heard 53 = .ok (.getfield 64, 3) := by decide +kernel
theorem dX9_heard_56 : decode cX9_heard 56 = .ok (.getfield 193, 3) := by decide +kernel
theorem dX9_heard_59 : decode cX9_heard 59 = .ok (.iload 4, 2) := by decide +kernel
theorem dX9_heard_61 : decode cX9_heard 61 = .ok (.invokestatic 196, 3) := by decide +kernel
theorem dX9_heard_64 : decode cX9_heard 64 = .ok (.lreturn, 1) := by decide +kernel
set_option maxRecDepth 20000 in
theorem ggX9_comes_X1_has : GoodIn wsX9_comes wsX1_has := goodIn_r _ [6, 7, 67, 68, 69, 70] (by decide +kernel) (by decide +kernel)
set_option maxRecDepth 20000 in
theorem gX9_comes_X1_has : GoodIn wsX9_comes (wsV RX9 130 RX1 yX1_has wsX1_has) := goodIn_app (goodIn_of _ (by decide +kernel)) ggX9_comes_X1_has
set_option maxRecDepth 20000 in
theorem ggX9_comes_X9_isOrder : GoodIn wsX9_comes wsX9_isOrder := goodIn_r _ [11] (by decide +kernel) (by decide +kernel)
set_option maxRecDepth 20000 in
theorem gX9_comes_X9_isOrder : GoodIn wsX9_comes (va_wsS RX9 155 yX9_isOrder wsX9_isOrder) := goodIn_app (goodIn_of _ (by decide +kernel)) ggX9_comes_X9_isOrder
set_option maxRecDepth 20000 in
theorem ggX9_comes_X9_comingOrders : GoodIn wsX9_comes wsX9_comingOrders := goodIn_r _ [15, 16, 1, 17, 18, 19, 20, 21, 22, 23, 24, 25, 26, 27, 28, 5, 29, 30, 31, 32, 33, 34, 35, 36, 37, 38, 39, 40, 41, 42, 43, 44, 45, 46, 47, 48, 49, 50, 51, 52, 53, 54, 55, 56, 57, 58, 59, 60, 61, 62, 63, 64, 65, 66, 71, 72, 73, 67, 68, 69, 70] (by decide +kernel) (by decide +kernel)
set_option maxRecDepth 20000 in
theorem gX9_comes_X9_comingOrders : GoodIn wsX9_comes (wsV RX9 200 RX9 yX9_comingOrders wsX9_comingOrders) := goodIn_app (goodIn_of _ (by decide +kernel)) ggX9_comes_X9_comingOrders
theorem dX9_comes_0 : decode cX9_comes 0 = .ok (.aload_n 0, 1) := by decide +kernel
theorem dX9_comes_1 : decode cX9_comes 1 = .ok (.getfield 26, 3) := by decide +kernel
theorem dX9_comes_4 : decode cX9_comes 4 = .ok (.iload_n 1, 1) := by decide +kernel
theorem dX9_comes_5 : decode cX9_comes 5 = .ok (.invokevirtual 130, 3) := by decide +kernel
theorem dX9_comes_8 : decode cX9_comes 8 = .ok (.ifCond .eq 10, 3) := by decide +kernel
theorem dX9_comes_11 : decode cX9_comes 11 = .ok (.iload_n 2, 1) := by decide +kernel
theorem dX9_comes_12 : decode cX9_comes 12 = .ok (.invokestatic 155, 3) := by decide +kernel
theorem dX9_comes_15 : decode cX9_comes 15 = .ok (.ifCond .ne 5, 3) := by decide +kernel
theorem dX9_comes_18 : decode cX9_comes 18 = .ok (.iconst (-1), 1) := by decide +kernel
theorem dX9_comes_19 : decode cX9_comes 19 = .ok (.ireturn, 1) := by decide +kernel
theorem dX9_comes_20 : decode cX9_comes 20 = .ok (.aload_n 0, 1) := by decide +kernel
theorem dX9_comes_21 : decode cX9_comes 21 = .ok (.iload_n 1, 1) := by decide +kernel
theorem dX9_comes_22 : decode cX9_comes 22 = .ok (.iload_n 2, 1) := by decide +kernel
theorem dX9_comes_23 : decode cX9_comes 23 = .ok (.invokevirtual 200, 3) := by decide +kernel
theorem dX9_comes_26 : decode cX9_comes 26 = .ok (.ireturn, 1) := by decide +kernel
set_option maxRecDepth 20000 in
theorem ggX9_sure_X1_has : GoodIn wsX9_sure wsX1_has := goodIn_r _ [6, 7, 64, 65, 66, 67] (by decide +kernel) (by decide +kernel)
set_option maxRecDepth 20000 in
theorem gX9_sure_X1_has : GoodIn wsX9_sure (wsV RX9 130 RX1 yX1_has wsX1_has) := goodIn_app (goodIn_of _ (by decide +kernel)) ggX9_sure_X1_has
set_option maxRecDepth 20000 in
theorem ggX9_sure_X9_comingOrders : GoodIn wsX9_sure wsX9_comingOrders := goodIn_r _ [12, 13, 1, 14, 15, 16, 17, 18, 19, 20, 21, 22, 23, 24, 25, 5, 26, 27, 28, 29, 30, 31, 32, 33, 34, 35, 36, 37, 38, 39, 40, 41, 42, 43, 44, 45, 46, 47, 48, 49, 50, 51, 52, 53, 54, 55, 56, 57, 58, 59, 60, 61, 62, 63, 68, 69, 70, 64, 65, 66, 67] (by decide +kernel) (by decide +kernel)
set_option maxRecDepth 20000 in
theorem gX9_sure_X9_comingOrders : GoodIn wsX9_sure (wsV RX9 200 RX9 yX9_comingOrders wsX9_comingOrders) := goodIn_app (goodIn_of _ (by decide +kernel)) ggX9_sure_X9_comingOrders
theorem dX9_sure_0 : decode cX9_sure 0 = .ok (.aload_n 0, 1) := by decide +kernel
theorem dX9_sure_1 : decode cX9_sure 1 = .ok (.getfield 26, 3) := by decide +kernel
theorem dX9_sure_4 : decode cX9_sure 4 = .ok (.iload_n 1, 1) := by decide +kernel
theorem dX9_sure_5 : decode cX9_sure 5 = .ok (.invokevirtual 130, 3) := by decide +kernel
theorem dX9_sure_8 : decode cX9_sure 8 = .ok (.ifCond .ne 5, 3) := by decide +kernel
theorem dX9_sure_11 : decode cX9_sure 11 = .ok (.iconst (-1), 1) := by decide +kernel
theorem dX9_sure_12 : decode cX9_sure 12 = .ok (.ireturn, 1) := by decide +kernel
theorem dX9_sure_13 : decode cX9_sure 13 = .ok (.iconst 0, 1) := by decide +kernel
theorem dX9_sure_14 : decode cX9_sure 14 = .ok (.istore_n 2, 1) := by decide +kernel
theorem dX9_sure_15 : decode cX9_sure 15 = .ok (.iconst 0, 1) := by decide +kernel
theorem dX9_sure_16 : decode cX9_sure 16 = .ok (.istore_n 3, 1) := by decide +kernel
theorem dX9_sure_17 : decode cX9_sure 17 = .ok (.iload_n 3, 1) := by decide +kernel
theorem dX9_sure_18 : decode cX9_sure 18 = .ok (.iconst 5, 1) := by decide +kernel
theorem dX9_sure_19 : decode cX9_sure 19 = .ok (.if_icmp .ge 27, 3) := by decide +kernel
theorem dX9_sure_22 : decode cX9_sure 22 = .ok (.aload_n 0, 1) := by decide +kernel
theorem dX9_sure_23 : decode cX9_sure 23 = .ok (.iload_n 1, 1) := by decide +kernel
theorem dX9_sure_24 : decode cX9_sure 24 = .ok (.iload_n 3, 1) := by decide +kernel
theorem dX9_sure_25 : decode cX9_sure 25 = .ok (.invokevirtual 200, 3) := by decide +kernel
theorem dX9_sure_28 : decode cX9_sure 28 = .ok (.iconst 1, 1) := by decide +kernel
theorem dX9_sure_29 : decode cX9_sure 29 = .ok (.iload_n 3, 1) := by decide +kernel
theorem dX9_sure_30 : decode cX9_sure 30 = .ok (.ishl, 1) := by decide +kernel
theorem dX9_sure_31 : decode cX9_sure 31 = .ok (.if_icmp .ne 9, 3) := by decide +kernel
theorem dX9_sure_34 : decode cX9_sure 34 = .ok (.iload_n 2, 1) := by decide +kernel
theorem dX9_sure_35 : decode cX9_sure 35 = .ok (.iconst 1, 1) := by decide +kernel
theorem dX9_sure_36 : decode cX9_sure 36 = .ok (.iload_n 3, 1) := by decide +kernel
theorem dX9_sure_37 : decode cX9_sure 37 = .ok (.ishl, 1) := by decide +kernel
theorem dX9_sure_38 : decode cX9_sure 38 = .ok (.ior, 1) := by decide +kernel
theorem dX9_sure_39 : decode cX9_sure 39 = .ok (.istore_n 2, 1) := by decide +kernel
theorem dX9_sure_40 : decode cX9_sure 40 = .ok (.iinc 3 1, 3) := by decide +kernel
theorem dX9_sure_43 : decode cX9_sure 43 = .ok (.goto (-26), 3) := by decide +kernel
theorem dX9_sure_46 : decode cX9_sure 46 = .ok (.iload_n 2, 1) := by decide +kernel
theorem dX9_sure_47 : decode cX9_sure 47 = .ok (.ireturn, 1) := by decide +kernel
set_option maxRecDepth 20000 in
theorem ggX9_code_X1_has : GoodIn wsX9_code wsX1_has := goodIn_r _ [7, 8, 76, 77, 78, 79] (by decide +kernel) (by decide +kernel)
set_option maxRecDepth 20000 in
theorem gX9_code_X1_has : GoodIn wsX9_code (wsV RX9 130 RX1 yX1_has wsX1_has) := goodIn_app (goodIn_of _ (by decide +kernel)) ggX9_code_X1_has
set_option maxRecDepth 20000 in
theorem ggX9_code_X9_comingOrders : GoodIn wsX9_code wsX9_comingOrders := goodIn_r _ [13, 14, 1, 15, 16, 17, 18, 19, 20, 21, 22, 23, 24, 25, 26, 6, 27, 28, 29, 30, 31, 32, 33, 34, 35, 36, 37, 38, 39, 40, 41, 42, 43, 44, 45, 46, 47, 48, 49, 50, 51, 52, 53, 65, 66, 67, 68, 69, 70, 71, 72, 73, 74, 75, 80, 81, 82, 76, 77, 78, 79] (by decide +kernel) (by decide +kernel)
set_option maxRecDepth 20000 in
theorem gX9_code_X9_comingOrders : GoodIn wsX9_code (wsV RX9 200 RX9 yX9_comingOrders wsX9_comingOrders) := goodIn_app (goodIn_of _ (by decide +kernel)) ggX9_code_X9_comingOrders
set_option maxRecDepth 20000 in
theorem ggX9_code_J6_bitCount_0f7a4 : GoodIn wsX9_code wsJ6_bitCount_0f7a4 := goodIn_r _ [57, 58, 59, 60] (by decide +kernel) (by decide +kernel)
set_option maxRecDepth 20000 in
theorem gX9_code_J6_bitCount_0f7a4 : GoodIn wsX9_code (va_wsS RX9 204 yJ6_bitCount_0f7a4 wsJ6_bitCount_0f7a4) := goodIn_app (goodIn_of _ (by decide +kernel)) ggX9_code_J6_bitCount_0f7a4
set_option maxRecDepth 20000 in
theorem ggX9_code_X9_areApart : GoodIn wsX9_code wsX9_areApart := goodIn_r _ [64, 2, 65, 66, 67, 68, 69, 70, 71, 72, 73, 74, 75] (by decide +kernel) (by decide +kernel)
set_option maxRecDepth 20000 in
theorem gX9_code_X9_areApart : GoodIn wsX9_code (wsV RX9 209 RX9 yX9_areApart wsX9_areApart) := goodIn_app (goodIn_of _ (by decide +kernel)) ggX9_code_X9_areApart
theorem dX9_code_0 : decode cX9_code 0 = .ok (.aload_n 0, 1) := by decide +kernel
theorem dX9_code_1 : decode cX9_code 1 = .ok (.getfield 26, 3) := by decide +kernel
theorem dX9_code_4 : decode cX9_code 4 = .ok (.iload_n 1, 1) := by decide +kernel
theorem dX9_code_5 : decode cX9_code 5 = .ok (.invokevirtual 130, 3) := by decide +kernel
theorem dX9_code_8 : decode cX9_code 8 = .ok (.ifCond .ne 5, 3) := by decide +kernel
theorem dX9_code_11 : decode cX9_code 11 = .ok (.iconst (-1), 1) := by decide +kernel
theorem dX9_code_12 : decode cX9_code 12 = .ok (.ireturn, 1) := by decide +kernel
theorem dX9_code_13 : decode cX9_code 13 = .ok (.iconst 0, 1) := by decide +kernel
theorem dX9_code_14 : decode cX9_code 14 = .ok (.istore_n 2, 1) := by decide +kernel
theorem dX9_code_15 : decode cX9_code 15 = .ok (.iload_n 2, 1) := by decide +kernel
theorem dX9_code_16 : decode cX9_code 16 = .ok (.iconst 5, 1) := by decide +kernel
theorem dX9_code_17 : decode cX9_code 17 = .ok (.if_icmp .ge 21, 3) := by decide +kernel
theorem dX9_code_20 : decode cX9_code 20 = .ok (.aload_n 0, 1) := by decide +kernel
theorem dX9_code_21 : decode cX9_code 21 = .ok (.getfield 75, 3) := by decide +kernel
theorem dX9_code_24 : decode cX9_code 24 = .ok (.iload_n 2, 1) := by decide +kernel
theorem dX9_code_25 : decode cX9_code 25 = .ok (.aload_n 0, 1) := by decide +kernel
theorem dX9_code_26 : decode cX9_code 26 = .ok (.iload_n 1, 1) := by decide +kernel
theorem dX9_code_27 : decode cX9_code 27 = .ok (.iload_n 2, 1) := by decide +kernel
theorem dX9_code_28 : decode cX9_code 28 = .ok (.invokevirtual 200, 3) := by decide +kernel
theorem dX9_code_31 : decode cX9_code 31 = .ok (.iastore, 1) := by decide +kernel
theorem dX9_code_32 : decode cX9_code 32 = .ok (.iinc 2 1, 3) := by decide +kernel
theorem dX9_code_35 : decode cX9_code 35 = .ok (.goto (-20), 3) := by decide +kernel
theorem dX9_code_38 : decode cX9_code 38 = .ok (.iconst 0, 1) := by decide +kernel
theorem dX9_code_39 : decode cX9_code 39 = .ok (.istore_n 2, 1) := by decide +kernel
theorem dX9_code_40 : decode cX9_code 40 = .ok (.iconst 1, 1) := by decide +kernel
theorem dX9_code_41 : decode cX9_code 41 = .ok (.istore_n 3, 1) := by decide +kernel
theorem dX9_code_42 : decode cX9_code 42 = .ok (.iload_n 3, 1) := by decide +kernel
theorem dX9_code_43 : decode cX9_code 43 = .ok (.bipush 32, 2) := by decide +kernel
theorem dX9_code_45 : decode cX9_code 45 = .ok (.if_icmp .ge 30, 3) := by decide +kernel
theorem dX9_code_48 : decode cX9_code 48 = .ok (.iload_n 3, 1) := by decide +kernel
theorem dX9_code_49 : decode cX9_code 49 = .ok (.invokestatic 204, 3) := by decide +kernel
theorem dX9_code_52 : decode cX9_code 52 = .ok (.iload_n 2, 1) := by decide +kernel
theorem dX9_code_53 : decode cX9_code 53 = .ok (.invokestatic 204, 3) := by decide +kernel
theorem dX9_code_56 : decode cX9_code 56 = .ok (.if_icmp .le 13, 3) := by decide +kernel
theorem dX9_code_59 : decode cX9_code 59 = .ok (.aload_n 0, 1) := by decide +kernel
theorem dX9_code_60 : decode cX9_code 60 = .ok (.iload_n 3, 1) := by decide +kernel
theorem dX9_code_61 : decode cX9_code 61 = .ok (.invokevirtual 209, 3) := by decide +kernel
theorem dX9_code_64 : decode cX9_code 64 = .ok (.ifCond .eq 5, 3) := by decide +kernel
theorem dX9_code_67 : decode cX9_code 67 = .ok (.iload_n 3, 1) := by decide +kernel
theorem dX9_code_68 : decode cX9_code 68 = .ok (.istore_n 2, 1) := by decide +kernel
theorem dX9_code_69 : decode cX9_code 69 = .ok (.iinc 3 1, 3) := by decide +kernel
theorem dX9_code_72 : decode cX9_code 72 = .ok (.goto (-30), 3) := by decide +kernel
theorem dX9_code_75 : decode cX9_code 75 = .ok (.iload_n 2, 1) := by decide +kernel
theorem dX9_code_76 : decode cX9_code 76 = .ok (.ireturn, 1) := by decide +kernel
set_option maxRecDepth 20000 in
theorem ggX9_twoOfThree_X1_has : GoodIn wsX9_twoOfThree wsX1_has := goodIn_r _ [12, 13, 76, 77, 78, 79] (by decide +kernel) (by decide +kernel)
set_option maxRecDepth 20000 in
theorem gX9_twoOfThree_X1_has : GoodIn wsX9_twoOfThree (wsV RX9 130 RX1 yX1_has wsX1_has) := goodIn_app (goodIn_of _ (by decide +kernel)) ggX9_twoOfThree_X1_has
set_option maxRecDepth 20000 in
theorem ggX9_twoOfThree_X9_isOrder : GoodIn wsX9_twoOfThree wsX9_isOrder := goodIn_r _ [17] (by decide +kernel) (by decide +kernel)
set_option maxRecDepth 20000 in
theorem gX9_twoOfThree_X9_isOrder : GoodIn wsX9_twoOfThree (va_wsS RX9 155 yX9_isOrder wsX9_isOrder) := goodIn_app (goodIn_of _ (by decide +kernel)) ggX9_twoOfThree_X9_isOrder
set_option maxRecDepth 20000 in
theorem ggX9_twoOfThree_X2_spread : GoodIn wsX9_twoOfThree wsX2_spread := goodIn_r _ [22, 23, 24, 25, 26, 27, 28, 11, 29, 30, 31, 32, 33, 21, 34, 35, 36, 37, 38, 39, 40, 41, 42, 43, 44, 45, 46, 47, 48, 49, 50, 51, 52, 53, 54, 55, 73, 74, 75, 76, 77, 78, 79] (by decide +kernel) (by decide +kernel)
set_option maxRecDepth 20000 in
theorem gX9_twoOfThree_X2_spread : GoodIn wsX9_twoOfThree (wsV RX9 185 RX2 yX2_spread wsX2_spread) := goodIn_app (goodIn_of _ (by decide +kernel)) ggX9_twoOfThree_X2_spread
set_option maxRecDepth 20000 in
theorem ggX9_twoOfThree_X9_inLeastTerms : GoodIn wsX9_twoOfThree wsX9_inLeastTerms := goodIn_r _ [58, 59, 60, 16, 61] (by decide +kernel) (by decide +kernel)
set_option maxRecDepth 20000 in
theorem gX9_twoOfThree_X9_inLeastTerms : GoodIn wsX9_twoOfThree (va_wsS RX9 196 yX9_inLeastTerms wsX9_inLeastTerms) := goodIn_app (goodIn_of _ (by decide +kernel)) ggX9_twoOfThree_X9_inLeastTerms
theorem dX9_twoOfThree_0 : decode cX9_twoOfThree 0 = .ok (.aload_n 0, 1) := by decide +kernel
theorem dX9_twoOfThree_1 : decode cX9_twoOfThree 1 = .ok (.getfield 26, 3) := by decide +kernel
theorem dX9_twoOfThree_4 : decode cX9_twoOfThree 4 = .ok (.iload_n 1, 1) := by decide +kernel
theorem dX9_twoOfThree_5 : decode cX9_twoOfThree 5 = .ok (.invokevirtual 130, 3) := by decide +kernel
theorem dX9_twoOfThree_8 : decode cX9_twoOfThree 8 = .ok (.ifCond .eq 10, 3) := by decide +kernel
theorem dX9_twoOfThree_11 : decode cX9_twoOfThree 11 = .ok (.iload_n 2, 1) := by decide +kernel
theorem dX9_twoOfThree_12 : decode cX9_twoOfThree 12 = .ok (.invokestatic 155, 3) := by decide +kernel
theorem dX9_twoOfThree_15 : decode cX9_twoOfThree 15 = .ok (.ifCond .ne 7, 3) := by decide +kernel
theorem dX9_twoOfThree_18 : decode cX9_twoOfThree 18 = .ok (.ldc2_w 183, 3) := by decide +kernel
theorem dX9_twoOfThree_21 : decode cX9_twoOfThree 21 = .ok (.lreturn, 1) := by decide +kernel
theorem dX9_twoOfThree_22 : decode cX9_twoOfThree 22 = .ok (.aload_n 0, 1) := by decide +kernel
theorem dX9_twoOfThree_23 : decode cX9_twoOfThree 23 = .ok (.getfield 64, 3) := by decide +kernel
theorem dX9_twoOfThree_26 : decode cX9_twoOfThree 26 = .ok (.aload_n 0, 1) := by decide +kernel
theorem dX9_twoOfThree_27 : decode cX9_twoOfThree 27 = .ok (.getfield 26, 3) := by decide +kernel
theorem dX9_twoOfThree_30 : decode cX9_twoOfThree 30 = .ok (.iconst 0, 1) := by decide +kernel
theorem dX9_twoOfThree_31 : decode cX9_twoOfThree 31 = .ok (.iload_n 1, 1) := by decide +kernel
theorem dX9_twoOfThree_32 : decode cX9_twoOfThree 32 = .ok (.iload_n 2, 1) := by decide +kernel
theorem dX9_twoOfThree_33 : decode cX9_twoOfThree 33 = .ok (.invokevirtual 185, 3) := by decide +kernel
theorem dX9_twoOfThree_36 : decode cX9_twoOfThree 36 = .ok (.aload_n 0, 1) := by decide +kernel
theorem dX9_twoOfThree_37 : decode cX9_twoOfThree 37 = .ok (.getfield 64, 3) := by decide +kernel
theorem dX9_twoOfThree_40 : decode cX9_twoOfThree 40 = .ok (.getfield 189, 3) := by decide +kernel
theorem dX9_twoOfThree_43 : decode cX9_twoOfThree 43 = .ok (.iload_n 2, 1) := by decide +kernel
theorem dX9_twoOfThree_44 : decode cX9_twoOfThree 44 = .ok (.laload, 1) := by decide +kernel
theorem dX9_twoOfThree_45 : decode cX9_twoOfThree 45 = .ok (.lstore 4, 2) := by decide +kernel
theorem dX9_twoOfThree_47 : decode cX9_twoOfThree 47 = .ok (.aload_n 0, 1) := by decide +kernel
theorem dX9_twoOfThree_48 : decode cX9_twoOfThree 48 = .ok (.getfield 64, 3) := by decide +kernel
theorem dX9_twoOfThree_51 : decode cX9_twoOfThree 51 = .ok (.getfield 193, 3) := by decide +kernel
theorem dX9_twoOfThree_54 : decode cX9_twoOfThree 54 = .ok (.lstore 6, 2) := by decide +kernel
theorem dX9_twoOfThree_56 : decode cX9_twoOfThree 56 = .ok (.lload 4, 2) := by decide +kernel
theorem dX9_twoOfThree_58 : decode cX9_twoOfThree 58 = .ok (.lload 4, 2) := by decide +kernel
theorem dX9_twoOfThree_60 : decode cX9_twoOfThree 60 = .ok (.lmul, 1) := by decide +kernel
theorem dX9_twoOfThree_61 : decode cX9_twoOfThree 61 = .ok (.ldc2_w 212, 3) := by decide +kernel
theorem dX9_twoOfThree_64 : decode cX9_twoOfThree 64 = .ok (.lload 6, 2) := by decide +kernel
theorem dX9_twoOfThree_66 : decode cX9_twoOfThree 66 = .ok (.lmul, 1) := by decide +kernel
theorem dX9_twoOfThree_67 : decode cX9_twoOfThree 67 = .ok (.ldc2_w 214, 3) := by decide +kernel
theorem dX9_twoOfThree_70 : decode cX9_twoOfThree 70 = .ok (.lload 4, 2) := by decide +kernel
theorem dX9_twoOfThree_72 : decode cX9_twoOfThree 72 = .ok (.lmul, 1) := by decide +kernel
theorem dX9_twoOfThree_73 : decode cX9_twoOfThree 73 = .ok (.lsub, 1) := by decide +kernel
theorem dX9_twoOfThree_74 : decode cX9_twoOfThree 74 = .ok (.lmul, 1) := by decide +kernel
theorem dX9_twoOfThree_75 : decode cX9_twoOfThree 75 = .ok (.lload 6, 2) := by decide +kernel
theorem dX9_twoOfThree_77 : decode cX9_twoOfThree 77 = .ok (.lload 6, 2) := by decide +kernel
theorem dX9_twoOfThree_79 : decode cX9_twoOfThree 79 = .ok (.lmul, 1) := by decide +kernel
theorem dX9_twoOfThree_80 : decode cX9_twoOfThree 80 = .ok (.lload 6, 2) := by decide +kernel
theorem dX9_twoOfThree_82 : decode cX9_twoOfThree 82 = .ok (.lmul, 1) := by decide +kernel
theorem dX9_twoOfThree_83 : decode cX9_twoOfThree 83 = .ok (.iload_n 3, 1) := by decide +kernel
theorem dX9_twoOfThree_84 : decode cX9_twoOfThree 84 = .ok (.invokestatic 196, 3) := by decide +kernel
theorem dX9_twoOfThree_87 : decode cX9_twoOfThree 87 = .ok (.lreturn, 1) := by decide +kernel
set_option maxRecDepth 20000 in
theorem ggX9_help_X9_isOrder : GoodIn wsX9_help wsX9_isOrder := goodIn_r _ [10] (by decide +kernel) (by decide +kernel)
set_option maxRecDepth 20000 in
theorem gX9_help_X9_isOrder : GoodIn wsX9_help (va_wsS RX9 155 yX9_isOrder wsX9_isOrder) := goodIn_app (goodIn_of _ (by decide +kernel)) ggX9_help_X9_isOrder
set_option maxRecDepth 20000 in
theorem ggX9_help_X2_spread : GoodIn wsX9_help wsX2_spread := goodIn_r _ [15, 16, 17, 18, 19, 20, 21, 22, 23, 24, 25, 26, 27, 14, 28, 29, 30, 31, 32, 33, 34, 35, 36, 37, 38, 39, 40, 41, 42, 43, 44, 45, 46, 47, 48, 49, 65, 66, 67, 61, 62, 63, 64] (by decide +kernel) (by decide +kernel)
set_option maxRecDepth 20000 in
theorem gX9_help_X2_spread : GoodIn wsX9_help (wsV RX9 185 RX2 yX2_spread wsX2_spread) := goodIn_app (goodIn_of _ (by decide +kernel)) ggX9_help_X2_spread
theorem dX9_help_0 : decode cX9_help 0 = .ok (.iload_n 1, 1) := by decide +kernel
theorem dX9_help_1 : decode cX9_help 1 = .ok (.invokestatic 155, 3) := by decide +kernel
theorem dX9_help_4 : decode cX9_help 4 = .ok (.ifCond .ne 5, 3) := by decide +kernel
theorem dX9_help_7 : decode cX9_help 7 = .ok (.iconst (-1), 1) := by decide +kernel
theorem dX9_help_8 : decode cX9_help 8 = .ok (.ireturn, 1) := by decide +kernel
theorem dX9_help_9 : decode cX9_help 9 = .ok (.bipush (-9), 2) := by decide +kernel
theorem dX9_help_11 : decode cX9_help 11 = .ok (.istore_n 2, 1) := by decide +kernel
theorem dX9_help_12 : decode cX9_help 12 = .ok (.ldc2_w 183, 3) := by decide +kernel
theorem dX9_help_15 : decode cX9_help 15 = .ok (.lstore_n 3, 1) := by decide +kernel
theorem dX9_help_16 : decode cX9_help 16 = .ok (.aload_n 0, 1) := by decide +kernel
theorem dX9_help_17 : decode cX9_help 17 = .ok (.getfield 26, 3) := by decide +kernel
theorem dX9_help_20 : decode cX9_help 20 = .ok (.getfield 110, 3) := by decide +kernel
theorem dX9_help_23 : decode cX9_help 23 = .ok (.iconst 1, 1) := by decide +kernel
theorem dX9_help_24 : decode cX9_help 24 = .ok (.isub, 1) := by decide +kernel
theorem dX9_help_25 : decode cX9_help 25 = .ok (.istore 5, 2) := by decide +kernel
theorem dX9_help_27 : decode cX9_help 27 = .ok (.lconst 1, 1) := by decide +kernel
theorem dX9_help_28 : decode cX9_help 28 = .ok (.lstore 6, 2) := by decide +kernel
theorem dX9_help_30 : decode cX9_help 30 = .ok (.iconst 1, 1) := by decide +kernel
theorem dX9_help_31 : decode cX9_help 31 = .ok (.istore 8, 2) := by decide +kernel
theorem dX9_help_33 : decode cX9_help 33 = .ok (.iload 8, 2) := by decide +kernel
theorem dX9_help_35 : decode cX9_help 35 = .ok (.iload 5, 2) := by decide +kernel
theorem dX9_help_37 : decode cX9_help 37 = .ok (.if_icmp .gt 60, 3) := by decide +kernel
theorem dX9_help_40 : decode cX9_help 40 = .ok (.aload_n 0, 1) := by decide +kernel
theorem dX9_help_41 : decode cX9_help 41 = .ok (.getfield 64, 3) := by decide +kernel
theorem dX9_help_44 : decode cX9_help 44 = .ok (.aload_n 0, 1) := by decide +kernel
theorem dX9_help_45 : decode cX9_help 45 = .ok (.getfield 26, 3) := by decide +kernel
theorem dX9_help_48 : decode cX9_help 48 = .ok (.iload 8, 2) := by decide +kernel
theorem dX9_help_50 : decode cX9_help 50 = .ok (.iload 5, 2) := by decide +kernel
theorem dX9_help_52 : decode cX9_help 52 = .ok (.iload_n 1, 1) := by decide +kernel
theorem dX9_help_53 : decode cX9_help 53 = .ok (.invokevirtual 185, 3) := by decide +kernel
theorem dX9_help_56 : decode cX9_help 56 = .ok (.aload_n 0, 1) := by decide +kernel
theorem dX9_help_57 : decode cX9_help 57 = .ok (.getfield 64, 3) := by decide +kernel
theorem dX9_help_60 : decode cX9_help 60 = .ok (.getfield 189, 3) := by decide +kernel
theorem dX9_help_63 : decode cX9_help 63 = .ok (.iload_n 1, 1) := by decide +kernel
theorem dX9_help_64 : decode cX9_help 64 = .ok (.laload, 1) := by decide +kernel
theorem dX9_help_65 : decode cX9_help 65 = .ok (.lload 6, 2) := by decide +kernel
theorem dX9_help_67 : decode cX9_help 67 = .ok (.lmul, 1) := by decide +kernel
theorem dX9_help_68 : decode cX9_help 68 = .ok (.lstore 9, 2) := by decide +kernel
theorem dX9_help_70 : decode cX9_help 70 = .ok (.lload 9, 2) := by decide +kernel
theorem dX9_help_72 : decode cX9_help 72 = .ok (.lload_n 3, 1) := by decide +kernel
theorem dX9_help_73 : decode cX9_help 73 = .ok (.lcmp, 1) := by decide +kernel
theorem dX9_help_74 : decode cX9_help 74 = .ok (.ifCond .le 9, 3) := by decide +kernel
theorem dX9_help_77 : decode cX9_help 77 = .ok (.iload 8, 2) := by decide +kernel
theorem dX9_help_79 : decode cX9_help 79 = .ok (.istore_n 2, 1) := by decide +kernel
theorem dX9_help_80 : decode cX9_help 80 = .ok (.lload 9, 2) := by decide +kernel
theorem dX9_help_82 : decode cX9_help 82 = .ok (.lstore_n 3, 1) := by decide +kernel
theorem dX9_help_83 : decode cX9_help 83 = .ok (.lload 6, 2) := by decide +kernel
theorem dX9_help_85 : decode cX9_help 85 = .ok (.ldc2_w 216, 3) := by decide +kernel
theorem dX9_help_88 : decode cX9_help 88 = .ok (.lmul, 1) := by decide +kernel
theorem dX9_help_89 : decode cX9_help 89 = .ok (.lstore 6, 2) := by decide +kernel
theorem dX9_help_91 : decode cX9_help 91 = .ok (.iinc 8 1, 3) := by decide +kernel
theorem dX9_help_94 : decode cX9_help 94 = .ok (.goto (-61), 3) := by decide +kernel
theorem dX9_help_97 : decode cX9_help 97 = .ok (.iload_n 2, 1) := by decide +kernel
theorem dX9_help_98 : decode cX9_help 98 = .ok (.ireturn, 1) := by decide +kernel
set_option maxRecDepth 20000 in
theorem ggX9_trace_X1_has : GoodIn wsX9_trace wsX1_has := goodIn_r _ [8, 9, 38, 39, 40, 41] (by decide +kernel) (by decide +kernel)
set_option maxRecDepth 20000 in
theorem gX9_trace_X1_has : GoodIn wsX9_trace (wsV RX9 130 RX1 yX1_has wsX1_has) := goodIn_app (goodIn_of _ (by decide +kernel)) ggX9_trace_X1_has
set_option maxRecDepth 20000 in
theorem ggX9_trace_X9_isOrder : GoodIn wsX9_trace wsX9_isOrder := goodIn_r _ [13] (by decide +kernel) (by decide +kernel)
set_option maxRecDepth 20000 in
theorem gX9_trace_X9_isOrder : GoodIn wsX9_trace (va_wsS RX9 155 yX9_isOrder wsX9_isOrder) := goodIn_app (goodIn_of _ (by decide +kernel)) ggX9_trace_X9_isOrder
set_option maxRecDepth 20000 in
theorem ggX9_trace_X8_add : GoodIn wsX9_trace wsX8_add := goodIn_r _ [18, 19, 20, 21, 22, 34, 35, 36, 37] (by decide +kernel) (by decide +kernel)
set_option maxRecDepth 20000 in
theorem gX9_trace_X8_add : GoodIn wsX9_trace (wsV RX9 218 RX8 yX8_add wsX8_add) := goodIn_app (goodIn_of _ (by decide +kernel)) ggX9_trace_X8_add
theorem dX9_trace_0 : decode cX9_trace 0 = .ok (.aload_n 0, 1) := by decide +kernel
theorem dX9_trace_1 : decode cX9_trace 1 = .ok (.getfield 26, 3) := by decide +kernel
theorem dX9_trace_4 : decode cX9_trace 4 = .ok (.iload_n 1, 1) := by decide +kernel
theorem dX9_trace_5 : decode cX9_trace 5 = .ok (.invokevirtual 130, 3) := by decide +kernel
theorem dX9_trace_8 : decode cX9_trace 8 = .ok (.ifCond .eq 10, 3) := by decide +kernel
theorem dX9_trace_11 : decode cX9_trace 11 = .ok (.iload_n 2, 1) := by decide +kernel
theorem dX9_trace_12 : decode cX9_trace 12 = .ok (.invokestatic 155, 3) := by decide +kernel
theorem dX9_trace_15 : decode cX9_trace 15 = .ok (.ifCond .ne 5, 3) := by decide +kernel
theorem dX9_trace_18 : decode cX9_trace 18 = .ok (.iconst (-1), 1) := by decide +kernel
theorem dX9_trace_19 : decode cX9_trace 19 = .ok (.ireturn, 1) := by decide +kernel
theorem dX9_trace_20 : decode cX9_trace 20 = .ok (.aload_n 0, 1) := by decide +kernel
theorem dX9_trace_21 : decode cX9_trace 21 = .ok (.getfield 57, 3) := by decide +kernel
theorem dX9_trace_24 : decode cX9_trace 24 = .ok (.getfield 129, 3) := by decide +kernel
theorem dX9_trace_27 : decode cX9_trace 27 = .ok (.bipush 6, 2) := by decide +kernel
theorem dX9_trace_29 : decode cX9_trace 29 = .ok (.if_icmp .lt 6, 3) := by decide +kernel
theorem dX9_trace_32 : decode cX9_trace 32 = .ok (.bipush (-4), 2) := by decide +kernel
theorem dX9_trace_34 : decode cX9_trace 34 = .ok (.ireturn, 1) := by decide +kernel
theorem dX9_trace_35 : decode cX9_trace 35 = .ok (.aload_n 0, 1) := by decide +kernel
theorem dX9_trace_36 : decode cX9_trace 36 = .ok (.getfield 57, 3) := by decide +kernel
theorem dX9_trace_39 : decode cX9_trace 39 = .ok (.iload_n 1, 1) := by decide +kernel
theorem dX9_trace_40 : decode cX9_trace 40 = .ok (.iload_n 2, 1) := by decide +kernel
theorem dX9_trace_41 : decode cX9_trace 41 = .ok (.iload_n 3, 1) := by decide +kernel
theorem dX9_trace_42 : decode cX9_trace 42 = .ok (.invokevirtual 218, 3) := by decide +kernel
theorem dX9_trace_45 : decode cX9_trace 45 = .ok (.aload_n 0, 1) := by decide +kernel
theorem dX9_trace_46 : decode cX9_trace 46 = .ok (.getfield 57, 3) := by decide +kernel
theorem dX9_trace_49 : decode cX9_trace 49 = .ok (.getfield 129, 3) := by decide +kernel
theorem dX9_trace_52 : decode cX9_trace 52 = .ok (.ireturn, 1) := by decide +kernel
set_option maxRecDepth 20000 in
theorem ggX9_untrace_X8_clear : GoodIn wsX9_untrace wsX8_clear := goodIn_r _ [7, 8, 20, 21, 22, 23] (by decide +kernel) (by decide +kernel)
set_option maxRecDepth 20000 in
theorem gX9_untrace_X8_clear : GoodIn wsX9_untrace (wsV RX9 222 RX8 yX8_clear wsX8_clear) := goodIn_app (goodIn_of _ (by decide +kernel)) ggX9_untrace_X8_clear
theorem dX9_untrace_0 : decode cX9_untrace 0 = .ok (.aload_n 0, 1) := by decide +kernel
theorem dX9_untrace_1 : decode cX9_untrace 1 = .ok (.getfield 57, 3) := by decide +kernel
theorem dX9_untrace_4 : decode cX9_untrace 4 = .ok (.getfield 129, 3) := by decide +kernel
theorem dX9_untrace_7 : decode cX9_untrace 7 = .ok (.istore_n 1, 1) := by decide +kernel
theorem dX9_untrace_8 : decode cX9_untrace 8 = .ok (.aload_n 0, 1) := by decide +kernel
theorem dX9_untrace_9 : decode cX9_untrace 9 = .ok (.getfield 57, 3) := by decide +kernel
theorem dX9_untrace_12 : decode cX9_untrace 12 = .ok (.invokevirtual 222, 3) := by decide +kernel
theorem dX9_untrace_15 : decode cX9_untrace 15 = .ok (.iload_n 1, 1) := by decide +kernel
theorem dX9_untrace_16 : decode cX9_untrace 16 = .ok (.ireturn, 1) := by decide +kernel
set_option maxRecDepth 20000 in
theorem ggX9_fits_X4_countFrom : GoodIn wsX9_fits wsX4_countFrom := goodIn_r _ [8, 9, 10, 11, 12, 13, 14, 15, 16, 17, 18, 19, 20, 21, 22, 23, 24, 25, 26, 27, 28, 7, 29, 30, 31, 32, 33, 34, 35, 36, 37, 38, 39, 40, 41, 42, 43, 44, 45, 46, 47, 48, 49, 50, 51, 52, 53, 54, 66, 67, 68, 69, 70, 71, 72, 73, 74, 75] (by decide +kernel) (by decide +kernel)
set_option maxRecDepth 20000 in
theorem gX9_fits_X4_countFrom : GoodIn wsX9_fits (wsV RX9 223 RX4 yX4_countFrom wsX4_countFrom) := goodIn_app (goodIn_of _ (by decide +kernel)) ggX9_fits_X4_countFrom
theorem dX9_fits_0 : decode cX9_fits 0 = .ok (.iconst 0, 1) := by decide +kernel
theorem dX9_fits_1 : decode cX9_fits 1 = .ok (.istore_n 1, 1) := by decide +kernel
theorem dX9_fits_2 : decode cX9_fits 2 = .ok (.iconst 0, 1) := by decide +kernel
theorem dX9_fits_3 : decode cX9_fits 3 = .ok (.istore_n 2, 1) := by decide +kernel
theorem dX9_fits_4 : decode cX9_fits 4 = .ok (.iload_n 2, 1) := by decide +kernel
theorem dX9_fits_5 : decode cX9_fits 5 = .ok (.iconst 5, 1) := by decide +kernel
theorem dX9_fits_6 : decode cX9_fits 6 = .ok (.if_icmp .ge 28, 3) := by decide +kernel
theorem dX9_fits_9 : decode cX9_fits 9 = .ok (.iload_n 1, 1) := by decide +kernel
theorem dX9_fits_10 : decode cX9_fits 10 = .ok (.aload_n 0, 1) := by decide +kernel
theorem dX9_fits_11 : decode cX9_fits 11 = .ok (.getfield 71, 3) := by decide +kernel
theorem dX9_fits_14 : decode cX9_fits 14 = .ok (.aload_n 0, 1) := by decide +kernel
theorem dX9_fits_15 : decode cX9_fits 15 = .ok (.getfield 26, 3) := by decide +kernel
theorem dX9_fits_18 : decode cX9_fits 18 = .ok (.aload_n 0, 1) := by decide +kernel
theorem dX9_fits_19 : decode cX9_fits 19 = .ok (.getfield 57, 3) := by decide +kernel
theorem dX9_fits_22 : decode cX9_fits 22 = .ok (.iload_n 2, 1) := by decide +kernel
theorem dX9_fits_23 : decode cX9_fits 23 = .ok (.invokevirtual 223, 3) := by decide +kernel
theorem dX9_fits_26 : decode cX9_fits 26 = .ok (.iadd, 1) := by decide +kernel
theorem dX9_fits_27 : decode cX9_fits 27 = .ok (.istore_n 1, 1) := by decide +kernel
theorem dX9_fits_28 : decode cX9_fits 28 = .ok (.iinc 2 1, 3) := by decide +kernel
theorem dX9_fits_31 : decode cX9_fits 31 = .ok (.goto (-27), 3) := by decide +kernel
theorem dX9_fits_34 : decode cX9_fits 34 = .ok (.iload_n 1, 1) := by decide +kernel
theorem dX9_fits_35 : decode cX9_fits 35 = .ok (.ireturn, 1) := by decide +kernel
set_option maxRecDepth 20000 in
theorem ggX9_told_X4_countFrom : GoodIn wsX9_told wsX4_countFrom := goodIn_r _ [8, 9, 10, 11, 12, 13, 14, 15, 16, 17, 18, 19, 20, 21, 22, 23, 24, 25, 26, 27, 28, 7, 29, 30, 31, 32, 33, 34, 35, 36, 37, 38, 39, 40, 41, 42, 43, 44, 45, 46, 47, 48, 49, 50, 51, 52, 53, 54, 66, 67, 68, 69, 70, 71, 72, 73, 74, 75] (by decide +kernel) (by decide +kernel)
set_option maxRecDepth 20000 in
theorem gX9_told_X4_countFrom : GoodIn wsX9_told (wsV RX9 223 RX4 yX4_countFrom wsX4_countFrom) := goodIn_app (goodIn_of _ (by decide +kernel)) ggX9_told_X4_countFrom
theorem dX9_told_0 : decode cX9_told 0 = .ok (.iconst 0, 1) := by decide +kernel
theorem dX9_told_1 : decode cX9_told 1 = .ok (.istore_n 1, 1) := by decide +kernel
theorem dX9_told_2 : decode cX9_told 2 = .ok (.iconst 0, 1) := by decide +kernel
theorem dX9_told_3 : decode cX9_told 3 = .ok (.istore_n 2, 1) := by decide +kernel
theorem dX9_told_4 : decode cX9_told 4 = .ok (.iload_n 2, 1) := by decide +kernel
theorem dX9_told_5 : decode cX9_told 5 = .ok (.iconst 5, 1) := by decide +kernel
theorem dX9_told_6 : decode cX9_told 6 = .ok (.if_icmp .ge 34, 3) := by decide +kernel
theorem dX9_told_9 : decode cX9_told 9 = .ok (.aload_n 0, 1) := by decide +kernel
theorem dX9_told_10 : decode cX9_told 10 = .ok (.getfield 71, 3) := by decide +kernel
theorem dX9_told_13 : decode cX9_told 13 = .ok (.aload_n 0, 1) := by decide +kernel
theorem dX9_told_14 : decode cX9_told 14 = .ok (.getfield 26, 3) := by decide +kernel
theorem dX9_told_17 : decode cX9_told 17 = .ok (.aload_n 0, 1) := by decide +kernel
theorem dX9_told_18 : decode cX9_told 18 = .ok (.getfield 57, 3) := by decide +kernel
theorem dX9_told_21 : decode cX9_told 21 = .ok (.iload_n 2, 1) := by decide +kernel
theorem dX9_told_22 : decode cX9_told 22 = .ok (.invokevirtual 223, 3) := by decide +kernel
theorem dX9_told_25 : decode cX9_told 25 = .ok (.ifCond .le 9, 3) := by decide +kernel
theorem dX9_told_28 : decode cX9_told 28 = .ok (.iload_n 1, 1) := by decide +kernel
theorem dX9_told_29 : decode cX9_told 29 = .ok (.iconst 1, 1) := by decide +kernel
theorem dX9_told_30 : decode cX9_told 30 = .ok (.iload_n 2, 1) := by decide +kernel
theorem dX9_told_31 : decode cX9_told 31 = .ok (.ishl, 1) := by decide +kernel
theorem dX9_told_32 : decode cX9_told 32 = .ok (.ior, 1) := by decide +kernel
theorem dX9_told_33 : decode cX9_told 33 = .ok (.istore_n 1, 1) := by decide +kernel
theorem dX9_told_34 : decode cX9_told 34 = .ok (.iinc 2 1, 3) := by decide +kernel
theorem dX9_told_37 : decode cX9_told 37 = .ok (.goto (-33), 3) := by decide +kernel
theorem dX9_told_40 : decode cX9_told 40 = .ok (.iload_n 1, 1) := by decide +kernel
theorem dX9_told_41 : decode cX9_told 41 = .ok (.ireturn, 1) := by decide +kernel
set_option maxRecDepth 20000 in
theorem ggX9_drill_X1_has : GoodIn wsX9_drill wsX1_has := goodIn_r _ [9, 10, 110, 111, 112, 113] (by decide +kernel) (by decide +kernel)
set_option maxRecDepth 20000 in
theorem gX9_drill_X1_has : GoodIn wsX9_drill (wsV RX9 130 RX1 yX1_has wsX1_has) := goodIn_app (goodIn_of _ (by decide +kernel)) ggX9_drill_X1_has
set_option maxRecDepth 20000 in
theorem ggX9_drill_X9_isRowOfOrders : GoodIn wsX9_drill wsX9_isRowOfOrders := goodIn_r _ [14, 15, 16, 13, 17] (by decide +kernel) (by decide +kernel)
set_option maxRecDepth 20000 in
theorem gX9_drill_X9_isRowOfOrders : GoodIn wsX9_drill (va_wsS RX9 227 yX9_isRowOfOrders wsX9_isRowOfOrders) := goodIn_app (goodIn_of _ (by decide +kernel)) ggX9_drill_X9_isRowOfOrders
set_option maxRecDepth 20000 in
theorem ggX9_drill_X5_copyFrom : GoodIn wsX9_drill wsX5_copyFrom := goodIn_r _ [22, 23, 24, 25, 26, 27, 28, 29, 30, 31, 101, 102, 103, 104, 105, 106, 107, 108, 109] (by decide +kernel) (by decide +kernel)
set_option maxRecDepth 20000 in
theorem gX9_drill_X5_copyFrom : GoodIn wsX9_drill (wsV RX9 231 RX5 yX5_copyFrom wsX5_copyFrom) := goodIn_app (goodIn_of _ (by decide +kernel)) ggX9_drill_X5_copyFrom
set_option maxRecDepth 20000 in
theorem ggX9_drill_X9_figure : GoodIn wsX9_drill wsX9_figure := goodIn_r _ [34] (by decide +kernel) (by decide +kernel)
set_option maxRecDepth 20000 in
theorem gX9_drill_X9_figure : GoodIn wsX9_drill (va_wsS RX9 233 yX9_figure wsX9_figure) := goodIn_app (goodIn_of _ (by decide +kernel)) ggX9_drill_X9_figure
set_option maxRecDepth 20000 in
theorem ggX9_drill_X5_giveOrder : GoodIn wsX9_drill wsX5_giveOrder := goodIn_r _ [38, 25, 39, 40, 41, 21, 42, 29, 43, 44, 45, 8, 46, 47, 48, 49, 50, 51, 24, 23, 52, 26, 101, 102, 103, 104, 105, 106, 107, 108, 109, 110, 111, 112, 113] (by decide +kernel) (by decide +kernel)
set_option maxRecDepth 20000 in
theorem gX9_drill_X5_giveOrder : GoodIn wsX9_drill (wsV RX9 170 RX5 yX5_giveOrder wsX5_giveOrder) := goodIn_app (goodIn_of _ (by decide +kernel)) ggX9_drill_X5_giveOrder
set_option maxRecDepth 20000 in
theorem ggX9_drill_X5_passMinute : GoodIn wsX9_drill wsX5_passMinute := goodIn_r _ [56, 57, 25, 30, 58, 59, 60, 21, 61, 62, 63, 64, 8, 65, 66, 67, 68, 69, 70, 71, 72, 73, 74, 75, 76, 77, 31, 78, 79, 80, 81, 39, 40, 41, 42, 29, 43, 44, 45, 46, 47, 48, 49, 50, 51, 24, 23, 52, 26, 82, 83, 84, 85, 28, 27, 110, 111, 112, 113, 101, 102, 103, 104, 105, 106, 107, 108, 109] (by decide +kernel) (by decide +kernel)
set_option maxRecDepth 20000 in
theorem gX9_drill_X5_passMinute : GoodIn wsX9_drill (wsV RX9 174 RX5 yX5_passMinute wsX5_passMinute) := goodIn_app (goodIn_of _ (by decide +kernel)) ggX9_drill_X5_passMinute
set_option maxRecDepth 20000 in
theorem ggX9_drill_X5_eastAndThousand : GoodIn wsX9_drill wsX5_eastAndThousand := goodIn_r _ [89, 27, 101, 102, 103, 104, 105, 106, 107, 108, 109] (by decide +kernel) (by decide +kernel)
set_option maxRecDepth 20000 in
theorem gX9_drill_X5_eastAndThousand : GoodIn wsX9_drill (wsV RX9 145 RX5 yX5_eastAndThousand wsX5_eastAndThousand) := goodIn_app (goodIn_of _ (by decide +kernel)) ggX9_drill_X5_eastAndThousand
theorem dX9_drill_0 : decode cX9_drill 0 = .ok (.aload_n 0, 1) := by decide +kernel
theorem dX9_drill_1 : decode cX9_drill 1 = .ok (.getfield 26, 3) := by decide +kernel
theorem dX9_drill_4 : decode cX9_drill 4 = .ok (.iload_n 1, 1) := by decide +kernel
theorem dX9_drill_5 : decode cX9_drill 5 = .ok (.invokevirtual 130, 3) := by decide +kernel
theorem dX9_drill_8 : decode cX9_drill 8 = .ok (.ifCond .ne 5, 3) := by decide +kernel
theorem dX9_drill_11 : decode cX9_drill 11 = .ok (.iconst (-1), 1) := by decide +kernel
theorem dX9_drill_12 : decode cX9_drill 12 = .ok (.ireturn, 1) := by decide +kernel
theorem dX9_drill_13 : decode cX9_drill 13 = .ok (.iload_n 2, 1) := by decide +kernel
theorem dX9_drill_14 : decode cX9_drill 14 = .ok (.iconst 1, 1) := by decide +kernel
theorem dX9_drill_15 : decode cX9_drill 15 = .ok (.if_icmp .lt 29, 3) := by decide +kernel
theorem dX9_drill_18 : decode cX9_drill 18 = .ok (.iload_n 2, 1) := by decide +kernel
theorem dX9_drill_19 : decode cX9_drill 19 = .ok (.bipush 6, 2) := by decide +kernel
theorem dX9_drill_21 : decode cX9_drill 21 = .ok (.if_icmp .gt 23, 3) := by decide +kernel
theorem dX9_drill_24 : decode cX9_drill 24 = .ok (.iload_n 2, 1) := by decide +kernel
theorem dX9_drill_25 : decode cX9_drill 25 = .ok (.iload_n 3, 1) := by decide +kernel
theorem dX9_drill_26 : decode cX9_drill 26 = .ok (.invokestatic 227, 3) := by decide +kernel
theorem dX9_drill_29 : decode cX9_drill 29 = .ok (.ifCond .eq 15, 3) := by decide +kernel
theorem dX9_drill_32 : decode cX9_drill 32 = .ok (.iload 4, 2) := by decide +kernel
theorem dX9_drill_34 : decode cX9_drill 34 = .ok (.ifCond .lt 10, 3) := by decide +kernel
theorem dX9_drill_37 : decode cX9_drill 37 = .ok (.iload 4, 2) := by decide +kernel
theorem dX9_drill_39 : decode cX9_drill 39 = .ok (.bipush 9, 2) := by decide +kernel
theorem dX9_drill_41 : decode cX9_drill 41 = .ok (.if_icmp .le 6, 3) := by decide +kernel
theorem dX9_drill_44 : decode cX9_drill 44 = .ok (.bipush (-2), 2) := by decide +kernel
theorem dX9_drill_46 : decode cX9_drill 46 = .ok (.ireturn, 1) := by decide +kernel
theorem dX9_drill_47 : decode cX9_drill 47 = .ok (.aload_n 0, 1) := by decide +kernel
theorem dX9_drill_48 : decode cX9_drill 48 = .ok (.getfield 37, 3) := by decide +kernel
theorem dX9_drill_51 : decode cX9_drill 51 = .ok (.aload_n 0, 1) := by decide +kernel
theorem dX9_drill_52 : decode cX9_drill 52 = .ok (.getfield 33, 3) := by decide +kernel
theorem dX9_drill_55 : decode cX9_drill 55 = .ok (.invokevirtual 231, 3) := by decide +kernel
theorem dX9_drill_58 : decode cX9_drill 58 = .ok (.iconst 0, 1) := by decide +kernel
theorem dX9_drill_59 : decode cX9_drill 59 = .ok (.istore 5, 2) := by decide +kernel
theorem dX9_drill_61 : decode cX9_drill 61 = .ok (.iload 5, 2) := by decide +kernel
theorem dX9_drill_63 : decode cX9_drill 63 = .ok (.iload_n 2, 1) := by decide +kernel
theorem dX9_drill_64 : decode cX9_drill 64 = .ok (.if_icmp .ge 41, 3) := by decide +kernel
theorem dX9_drill_67 : decode cX9_drill 67 = .ok (.aload_n 0, 1) := by decide +kernel
theorem dX9_drill_68 : decode cX9_drill 68 = .ok (.getfield 37, 3) := by decide +kernel
theorem dX9_drill_71 : decode cX9_drill 71 = .ok (.aload_n 0, 1) := by decide +kernel
theorem dX9_drill_72 : decode cX9_drill 72 = .ok (.getfield 26, 3) := by decide +kernel
theorem dX9_drill_75 : decode cX9_drill 75 = .ok (.iload_n 3, 1) := by decide +kernel
theorem dX9_drill_76 : decode cX9_drill 76 = .ok (.iload_n 2, 1) := by decide +kernel
theorem dX9_drill_77 : decode cX9_drill 77 = .ok (.iconst 1, 1) := by decide +kernel
theorem dX9_drill_78 : decode cX9_drill 78 = .ok (.isub, 1) := by decide +kernel
theorem dX9_drill_79 : decode cX9_drill 79 = .ok (.iload 5, 2) := by decide +kernel
theorem dX9_drill_81 : decode cX9_drill 81 = .ok (.isub, 1) := by decide +kernel
theorem dX9_drill_82 : decode cX9_drill 82 = .ok (.invokestatic 233, 3) := by decide +kernel
theorem dX9_drill_85 : decode cX9_drill 85 = .ok (.invokevirtual 170, 3) := by decide +kernel
theorem dX9_drill_88 : decode cX9_drill 88 = .ok (.aload_n 0, 1) := by decide +kernel
theorem dX9_drill_89 : decode cX9_drill 89 = .ok (.getfield 37, 3) := by decide +kernel
theorem dX9_drill_92 : decode cX9_drill 92 = .ok (.aload_n 0, 1) := by decide +kernel
theorem dX9_drill_93 : decode cX9_drill 93 = .ok (.getfield 26, 3) := by decide +kernel
theorem dX9_drill_96 : decode cX9_drill 96 = .ok (.invokevirtual 174, 3) := by decide +kernel
theorem dX9_drill_99 : decode cX9_drill 99 = .ok (.iinc 5 1, 3) := by decide +kernel
theorem dX9_drill_102 : decode cX9_drill 102 = .ok (.goto (-41), 3) := by decide +kernel
theorem dX9_drill_105 : decode cX9_drill 105 = .ok (.iconst 0, 1) := by decide +kernel
theorem dX9_drill_106 : decode cX9_drill 106 = .ok (.istore 5, 2) := by decide +kernel
theorem dX9_drill_108 : decode cX9_drill 108 = .ok (.iload 5, 2) := by decide +kernel
theorem dX9_drill_110 : decode cX9_drill 110 = .ok (.iload 4, 2) := by decide +kernel
theorem dX9_drill_112 : decode cX9_drill 112 = .ok (.if_icmp .ge 20, 3) := by decide +kernel
theorem dX9_drill_115 : decode cX9_drill 115 = .ok (.aload_n 0, 1) := by decide +kernel
theorem dX9_drill_116 : decode cX9_drill 116 = .ok (.getfield 37, 3) := by decide +kernel
theorem dX9_drill_119 : decode cX9_drill 119 = .ok (.aload_n 0, 1) := by decide +kernel
theorem dX9_drill_120 : decode cX9_drill 120 = .ok (.getfield 26, 3) := by decide +kernel
theorem dX9_drill_123 : decode cX9_drill 123 = .ok (.invokevirtual 174, 3) := by decide +kernel
theorem dX9_drill_126 : decode cX9_drill 126 = .ok (.iinc 5 1, 3) := by decide +kernel
theorem dX9_drill_129 : decode cX9_drill 129 = .ok (.goto (-21), 3) := by decide +kernel
theorem dX9_drill_132 : decode cX9_drill 132 = .ok (.sipush 1000, 3) := by decide +kernel
theorem dX9_drill_135 : decode cX9_drill 135 = .ok (.aload_n 0, 1) := by decide +kernel
theorem dX9_drill_136 : decode cX9_drill 136 = .ok (.getfield 37, 3) := by decide +kernel
theorem dX9_drill_139 : decode cX9_drill 139 = .ok (.iload_n 1, 1) := by decide +kernel
theorem dX9_drill_140 : decode cX9_drill 140 = .ok (.invokevirtual 145, 3) := by decide +kernel
theorem dX9_drill_143 : decode cX9_drill 143 = .ok (.imul, 1) := by decide +kernel
theorem dX9_drill_144 : decode cX9_drill 144 = .ok (.aload_n 0, 1) := by decide +kernel
theorem dX9_drill_145 : decode cX9_drill 145 = .ok (.getfield 37, 3) := by decide +kernel
theorem dX9_drill_148 : decode cX9_drill 148 = .ok (.getfield 149, 3) := by decide +kernel
theorem dX9_drill_151 : decode cX9_drill 151 = .ok (.iload_n 1, 1) := by decide +kernel
theorem dX9_drill_152 : decode cX9_drill 152 = .ok (.iaload, 1) := by decide +kernel
theorem dX9_drill_153 : decode cX9_drill 153 = .ok (.iadd, 1) := by decide +kernel
theorem dX9_drill_154 : decode cX9_drill 154 = .ok (.ireturn, 1) := by decide +kernel
set_option maxRecDepth 20000 in
theorem ggX9_keep_X9_isSlot : GoodIn wsX9_keep wsX9_isSlot := goodIn_r _ [7] (by decide +kernel) (by decide +kernel)
set_option maxRecDepth 20000 in
theorem gX9_keep_X9_isSlot : GoodIn wsX9_keep (va_wsS RX9 236 yX9_isSlot wsX9_isSlot) := goodIn_app (goodIn_of _ (by decide +kernel)) ggX9_keep_X9_isSlot
set_option maxRecDepth 20000 in
theorem ggX9_keep_X6_store : GoodIn wsX9_keep wsX6_store := goodIn_r _ [12, 13, 14, 15, 16, 17, 18, 19, 20, 21, 22, 23, 24, 25, 26, 27, 28, 49, 50, 40, 41, 42, 43, 44, 45, 46, 47, 48] (by decide +kernel) (by decide +kernel)
set_option maxRecDepth 20000 in
theorem gX9_keep_X6_store : GoodIn wsX9_keep (wsV RX9 239 RX6 yX6_store wsX6_store) := goodIn_app (goodIn_of _ (by decide +kernel)) ggX9_keep_X6_store
theorem dX9_keep_0 : decode cX9_keep 0 = .ok (.iload_n 1, 1) := by decide +kernel
theorem dX9_keep_1 : decode cX9_keep 1 = .ok (.invokestatic 236, 3) := by decide +kernel
theorem dX9_keep_4 : decode cX9_keep 4 = .ok (.ifCond .ne 5, 3) := by decide +kernel
theorem dX9_keep_7 : decode cX9_keep 7 = .ok (.iconst (-1), 1) := by decide +kernel
theorem dX9_keep_8 : decode cX9_keep 8 = .ok (.ireturn, 1) := by decide +kernel
theorem dX9_keep_9 : decode cX9_keep 9 = .ok (.aload_n 0, 1) := by decide +kernel
theorem dX9_keep_10 : decode cX9_keep 10 = .ok (.getfield 50, 3) := by decide +kernel
theorem dX9_keep_13 : decode cX9_keep 13 = .ok (.iload_n 1, 1) := by decide +kernel
theorem dX9_keep_14 : decode cX9_keep 14 = .ok (.aload_n 0, 1) := by decide +kernel
theorem dX9_keep_15 : decode cX9_keep 15 = .ok (.getfield 33, 3) := by decide +kernel
theorem dX9_keep_18 : decode cX9_keep 18 = .ok (.invokevirtual 239, 3) := by decide +kernel
theorem dX9_keep_21 : decode cX9_keep 21 = .ok (.aload_n 0, 1) := by decide +kernel
theorem dX9_keep_22 : decode cX9_keep 22 = .ok (.getfield 33, 3) := by decide +kernel
theorem dX9_keep_25 : decode cX9_keep 25 = .ok (.getfield 116, 3) := by decide +kernel
theorem dX9_keep_28 : decode cX9_keep 28 = .ok (.ireturn, 1) := by decide +kernel
set_option maxRecDepth 20000 in
theorem ggX9_again_X9_isSlot : GoodIn wsX9_again wsX9_isSlot := goodIn_r _ [10] (by decide +kernel) (by decide +kernel)
set_option maxRecDepth 20000 in
theorem gX9_again_X9_isSlot : GoodIn wsX9_again (va_wsS RX9 236 yX9_isSlot wsX9_isSlot) := goodIn_app (goodIn_of _ (by decide +kernel)) ggX9_again_X9_isSlot
set_option maxRecDepth 20000 in
theorem ggX9_again_X5_copyFrom : GoodIn wsX9_again wsX5_copyFrom := goodIn_r _ [15, 16, 17, 18, 19, 20, 21, 22, 23, 24, 44, 45, 46, 47, 48, 49, 50, 51, 52] (by decide +kernel) (by decide +kernel)
set_option maxRecDepth 20000 in
theorem gX9_again_X5_copyFrom : GoodIn wsX9_again (wsV RX9 231 RX5 yX5_copyFrom wsX5_copyFrom) := goodIn_app (goodIn_of _ (by decide +kernel)) ggX9_again_X5_copyFrom
set_option maxRecDepth 20000 in
theorem ggX9_again_X0_clear : GoodIn wsX9_again wsX0_clear := goodIn_r _ [29, 30, 53, 54, 55] (by decide +kernel) (by decide +kernel)
set_option maxRecDepth 20000 in
theorem gX9_again_X0_clear : GoodIn wsX9_again (wsV RX9 108 RX0 yX0_clear wsX0_clear) := goodIn_app (goodIn_of _ (by decide +kernel)) ggX9_again_X0_clear
theorem dX9_again_0 : decode cX9_again 0 = .ok (.iload_n 1, 1) := by decide +kernel
theorem dX9_again_1 : decode cX9_again 1 = .ok (.invokestatic 236, 3) := by decide +kernel
theorem dX9_again_4 : decode cX9_again 4 = .ok (.ifCond .ne 5, 3) := by decide +kernel
theorem dX9_again_7 : decode cX9_again 7 = .ok (.iconst (-1), 1) := by decide +kernel
theorem dX9_again_8 : decode cX9_again 8 = .ok (.ireturn, 1) := by decide +kernel
theorem dX9_again_9 : decode cX9_again 9 = .ok (.aload_n 0, 1) := by decide +kernel
theorem dX9_again_10 : decode cX9_again 10 = .ok (.getfield 50, 3) := by decide +kernel
theorem dX9_again_13 : decode cX9_again 13 = .ok (.getfield 243, 3) := by decide +kernel
theorem dX9_again_16 : decode cX9_again 16 = .ok (.iload_n 1, 1) := by decide +kernel
theorem dX9_again_17 : decode cX9_again 17 = .ok (.baload, 1) := by decide +kernel
theorem dX9_again_18 : decode cX9_again 18 = .ok (.ifCond .ne 6, 3) := by decide +kernel
theorem dX9_again_21 : decode cX9_again 21 = .ok (.bipush (-3), 2) := by decide +kernel
theorem dX9_again_23 : decode cX9_again 23 = .ok (.ireturn, 1) := by decide +kernel
theorem dX9_again_24 : decode cX9_again 24 = .ok (.aload_n 0, 1) := by decide +kernel
theorem dX9_again_25 : decode cX9_again 25 = .ok (.getfield 33, 3) := by decide +kernel
theorem dX9_again_28 : decode cX9_again 28 = .ok (.aload_n 0, 1) := by decide +kernel
theorem dX9_again_29 : decode cX9_again 29 = .ok (.getfield 50, 3) := by decide +kernel
theorem dX9_again_32 : decode cX9_again 32 = .ok (.getfield 247, 3) := by decide +kernel
theorem dX9_again_35 : decode cX9_again 35 = .ok (.iload_n 1, 1) := by decide +kernel
theorem dX9_again_36 : decode cX9_again 36 = .ok (.aaload, 1) := by decide +kernel
theorem dX9_again_37 : decode cX9_again 37 = .ok (.invokevirtual 231, 3) := by decide +kernel
theorem dX9_again_40 : decode cX9_again 40 = .ok (.aload_n 0, 1) := by decide +kernel
theorem dX9_again_41 : decode cX9_again 41 = .ok (.getfield 43, 3) := by decide +kernel
theorem dX9_again_44 : decode cX9_again 44 = .ok (.invokevirtual 108, 3) := by decide +kernel
theorem dX9_again_47 : decode cX9_again 47 = .ok (.aload_n 0, 1) := by decide +kernel
theorem dX9_again_48 : decode cX9_again 48 = .ok (.getfield 33, 3) := by decide +kernel
theorem dX9_again_51 : decode cX9_again 51 = .ok (.getfield 116, 3) := by decide +kernel
theorem dX9_again_54 : decode cX9_again 54 = .ok (.ireturn, 1) := by decide +kernel
theorem dX9_isOrder_0 : decode cX9_isOrder 0 = .ok (.iload_n 0, 1) := by decide +kernel
theorem dX9_isOrder_1 : decode cX9_isOrder 1 = .ok (.ifCond .lt 12, 3) := by decide +kernel
theorem dX9_isOrder_4 : decode cX9_isOrder 4 = .ok (.iload_n 0, 1) := by decide +kernel
theorem dX9_isOrder_5 : decode cX9_isOrder 5 = .ok (.iconst 5, 1) := by decide +kernel
theorem dX9_isOrder_6 : decode cX9_isOrder 6 = .ok (.if_icmp .ge 7, 3) := by decide +kernel
theorem dX9_isOrder_9 : decode cX9_isOrder 9 = .ok (.iconst 1, 1) := by decide +kernel
theorem dX9_isOrder_10 : decode cX9_isOrder 10 = .ok (.goto 4, 3) := by decide +kernel
theorem dX9_isOrder_13 : decode cX9_isOrder 13 = .ok (.iconst 0, 1) := by decide +kernel
theorem dX9_isOrder_14 : decode cX9_isOrder 14 = .ok (.ireturn, 1) := by decide +kernel
theorem dX9_isSlot_0 : decode cX9_isSlot 0 = .ok (.iload_n 0, 1) := by decide +kernel
theorem dX9_isSlot_1 : decode cX9_isSlot 1 = .ok (.ifCond .lt 12, 3) := by decide +kernel
theorem dX9_isSlot_4 : decode cX9_isSlot 4 = .ok (.iload_n 0, 1) := by decide +kernel
theorem dX9_isSlot_5 : decode cX9_isSlot 5 = .ok (.iconst 2, 1) := by decide +kernel
theorem dX9_isSlot_6 : decode cX9_isSlot 6 = .ok (.if_icmp .ge 7, 3) := by decide +kernel
theorem dX9_isSlot_9 : decode cX9_isSlot 9 = .ok (.iconst 1, 1) := by decide +kernel
theorem dX9_isSlot_10 : decode cX9_isSlot 10 = .ok (.goto 4, 3) := by decide +kernel
theorem dX9_isSlot_13 : decode cX9_isSlot 13 = .ok (.iconst 0, 1) := by decide +kernel
theorem dX9_isSlot_14 : decode cX9_isSlot 14 = .ok (.ireturn, 1) := by decide +kernel
theorem dX9_figure_0 : decode cX9_figure 0 = .ok (.iload_n 0, 1) := by decide +kernel
theorem dX9_figure_1 : decode cX9_figure 1 = .ok (.istore_n 2, 1) := by decide +kernel
theorem dX9_figure_2 : decode cX9_figure 2 = .ok (.iconst 0, 1) := by decide +kernel
theorem dX9_figure_3 : decode cX9_figure 3 = .ok (.istore_n 3, 1) := by decide +kernel
theorem dX9_figure_4 : decode cX9_figure 4 = .ok (.iload_n 3, 1) := by decide +kernel
theorem dX9_figure_5 : decode cX9_figure 5 = .ok (.iload_n 1, 1) := by decide +kernel
theorem dX9_figure_6 : decode cX9_figure 6 = .ok (.if_icmp .ge 14, 3) := by decide +kernel
theorem dX9_figure_9 : decode cX9_figure 9 = .ok (.iload_n 2, 1) := by decide +kernel
theorem dX9_figure_10 : decode cX9_figure 10 = .ok (.bipush 10, 2) := by decide +kernel
theorem dX9_figure_12 : decode cX9_figure 12 = .ok (.idiv, 1) := by decide +kernel
theorem dX9_figure_13 : decode cX9_figure 13 = .ok (.istore_n 2, 1) := by decide +kernel
theorem dX9_figure_14 : decode cX9_figure 14 = .ok (.iinc 3 1, 3) := by decide +kernel
theorem dX9_figure_17 : decode cX9_figure 17 = .ok (.goto (-13), 3) := by decide +kernel
theorem dX9_figure_20 : decode cX9_figure 20 = .ok (.iload_n 2, 1) := by decide +kernel
theorem dX9_figure_21 : decode cX9_figure 21 = .ok (.bipush 10, 2) := by decide +kernel
theorem dX9_figure_23 : decode cX9_figure 23 = .ok (.irem, 1) := by decide +kernel
theorem dX9_figure_24 : decode cX9_figure 24 = .ok (.ireturn, 1) := by decide +kernel
set_option maxRecDepth 20000 in
theorem ggX9_isRowOfOrders_X9_isOrder : GoodIn wsX9_isRowOfOrders wsX9_isOrder := goodIn_r _ [4] (by decide +kernel) (by decide +kernel)
set_option maxRecDepth 20000 in
theorem gX9_isRowOfOrders_X9_isOrder : GoodIn wsX9_isRowOfOrders (va_wsS RX9 155 yX9_isOrder wsX9_isOrder) := goodIn_app (goodIn_of _ (by decide +kernel)) ggX9_isRowOfOrders_X9_isOrder
theorem dX9_isRowOfOrders_0 : decode cX9_isRowOfOrders 0 = .ok (.iload_n 1, 1) := by decide +kernel
theorem dX9_isRowOfOrders_1 : decode cX9_isRowOfOrders 1 = .ok (.ifCond .ge 5, 3) := by decide +kernel
theorem dX9_isRowOfOrders_4 : decode cX9_isRowOfOrders 4 = .ok (.iconst 0, 1) := by decide +kernel
theorem dX9_isRowOfOrders_5 : decode cX9_isRowOfOrders 5 = .ok (.ireturn, 1) := by decide +kernel
theorem dX9_isRowOfOrders_6 : decode cX9_isRowOfOrders 6 = .ok (.iload_n 1, 1) := by decide +kernel
theorem dX9_isRowOfOrders_7 : decode cX9_isRowOfOrders 7 = .ok (.istore_n 2, 1) := by decide +kernel
theorem dX9_isRowOfOrders_8 : decode cX9_isRowOfOrders 8 = .ok (.iconst 0, 1) := by decide +kernel
theorem dX9_isRowOfOrders_9 : decode cX9_isRowOfOrders 9 = .ok (.istore_n 3, 1) := by decide +kernel
theorem dX9_isRowOfOrders_10 : decode cX9_isRowOfOrders 10 = .ok (.iload_n 3, 1) := by decide +kernel
theorem dX9_isRowOfOrders_11 : decode cX9_isRowOfOrders 11 = .ok (.iload_n 0, 1) := by decide +kernel
theorem dX9_isRowOfOrders_12 : decode cX9_isRowOfOrders 12 = .ok (.if_icmp .ge 26, 3) := by decide +kernel
theorem dX9_isRowOfOrders_15 : decode cX9_isRowOfOrders 15 = .ok (.iload_n 2, 1) := by decide +kernel
theorem dX9_isRowOfOrders_16 : decode cX9_isRowOfOrders 16 = .ok (.bipush 10, 2) := by decide +kernel
theorem dX9_isRowOfOrders_18 : decode cX9_isRowOfOrders 18 = .ok (.irem, 1) := by decide +kernel
theorem dX9_isRowOfOrders_19 : decode cX9_isRowOfOrders 19 = .ok (.invokestatic 155, 3) := by decide +kernel
theorem dX9_isRowOfOrders_22 : decode cX9_isRowOfOrders 22 = .ok (.ifCond .ne 5, 3) := by decide +kernel
theorem dX9_isRowOfOrders_25 : decode cX9_isRowOfOrders 25 = .ok (.iconst 0, 1) := by decide +kernel
theorem dX9_isRowOfOrders_26 : decode cX9_isRowOfOrders 26 = .ok (.ireturn, 1) := by decide +kernel
theorem dX9_isRowOfOrders_27 : decode cX9_isRowOfOrders 27 = .ok (.iload_n 2, 1) := by decide +kernel
theorem dX9_isRowOfOrders_28 : decode cX9_isRowOfOrders 28 = .ok (.bipush 10, 2) := by decide +kernel
theorem dX9_isRowOfOrders_30 : decode cX9_isRowOfOrders 30 = .ok (.idiv, 1) := by decide +kernel
theorem dX9_isRowOfOrders_31 : decode cX9_isRowOfOrders 31 = .ok (.istore_n 2, 1) := by decide +kernel
theorem dX9_isRowOfOrders_32 : decode cX9_isRowOfOrders 32 = .ok (.iinc 3 1, 3) := by decide +kernel
theorem dX9_isRowOfOrders_35 : decode cX9_isRowOfOrders 35 = .ok (.goto (-25), 3) := by decide +kernel
theorem dX9_isRowOfOrders_38 : decode cX9_isRowOfOrders 38 = .ok (.iload_n 2, 1) := by decide +kernel
theorem dX9_isRowOfOrders_39 : decode cX9_isRowOfOrders 39 = .ok (.ifCond .ne 7, 3) := by decide +kernel
theorem dX9_isRowOfOrders_42 : decode cX9_isRowOfOrders 42 = .ok (.iconst 1, 1) := by decide +kernel
theorem dX9_isRowOfOrders_43 : decode cX9_isRowOfOrders 43 = .ok (.goto 4, 3) := by decide +kernel
theorem dX9_isRowOfOrders_46 : decode cX9_isRowOfOrders 46 = .ok (.iconst 0, 1) := by decide +kernel
theorem dX9_isRowOfOrders_47 : decode cX9_isRowOfOrders 47 = .ok (.ireturn, 1) := by decide +kernel
set_option maxRecDepth 20000 in
theorem ggX9_comingOrders_X2_spread : GoodIn wsX9_comingOrders wsX2_spread := goodIn_r _ [8, 9, 10, 11, 12, 13, 14, 15, 16, 17, 18, 19, 20, 7, 21, 22, 23, 24, 25, 26, 27, 28, 29, 30, 31, 32, 33, 34, 35, 36, 37, 38, 39, 40, 41, 42, 54, 55, 56, 57, 58, 59, 60] (by decide +kernel) (by decide +kernel)
set_option maxRecDepth 20000 in
theorem gX9_comingOrders_X2_spread : GoodIn wsX9_comingOrders (wsV RX9 185 RX2 yX2_spread wsX2_spread) := goodIn_app (goodIn_of _ (by decide +kernel)) ggX9_comingOrders_X2_spread
theorem dX9_comingOrders_0 : decode cX9_comingOrders 0 = .ok (.aload_n 0, 1) := by decide +kernel
theorem dX9_comingOrders_1 : decode cX9_comingOrders 1 = .ok (.getfield 64, 3) := by decide +kernel
theorem dX9_comingOrders_4 : decode cX9_comingOrders 4 = .ok (.aload_n 0, 1) := by decide +kernel
theorem dX9_comingOrders_5 : decode cX9_comingOrders 5 = .ok (.getfield 26, 3) := by decide +kernel
theorem dX9_comingOrders_8 : decode cX9_comingOrders 8 = .ok (.iconst 0, 1) := by decide +kernel
theorem dX9_comingOrders_9 : decode cX9_comingOrders 9 = .ok (.iload_n 1, 1) := by decide +kernel
theorem dX9_comingOrders_10 : decode cX9_comingOrders 10 = .ok (.iload_n 2, 1) := by decide +kernel
theorem dX9_comingOrders_11 : decode cX9_comingOrders 11 = .ok (.invokevirtual 185, 3) := by decide +kernel
theorem dX9_comingOrders_14 : decode cX9_comingOrders 14 = .ok (.iconst 0, 1) := by decide +kernel
theorem dX9_comingOrders_15 : decode cX9_comingOrders 15 = .ok (.istore_n 3, 1) := by decide +kernel
theorem dX9_comingOrders_16 : decode cX9_comingOrders 16 = .ok (.iconst 0, 1) := by decide +kernel
theorem dX9_comingOrders_17 : decode cX9_comingOrders 17 = .ok (.istore 4, 2) := by decide +kernel
theorem dX9_comingOrders_19 : decode cX9_comingOrders 19 = .ok (.iload 4, 2) := by decide +kernel
theorem dX9_comingOrders_21 : decode cX9_comingOrders 21 = .ok (.iconst 5, 1) := by decide +kernel
theorem dX9_comingOrders_22 : decode cX9_comingOrders 22 = .ok (.if_icmp .ge 31, 3) := by decide +kernel
theorem dX9_comingOrders_25 : decode cX9_comingOrders 25 = .ok (.aload_n 0, 1) := by decide +kernel
theorem dX9_comingOrders_26 : decode cX9_comingOrders 26 = .ok (.getfield 64, 3) := by decide +kernel
theorem dX9_comingOrders_29 : decode cX9_comingOrders 29 = .ok (.getfield 189, 3) := by decide +kernel
theorem dX9_comingOrders_32 : decode cX9_comingOrders 32 = .ok (.iload 4, 2) := by decide +kernel
theorem dX9_comingOrders_34 : decode cX9_comingOrders 34 = .ok (.laload, 1) := by decide +kernel
theorem dX9_comingOrders_35 : decode cX9_comingOrders 35 = .ok (.lconst 0, 1) := by decide +kernel
theorem dX9_comingOrders_36 : decode cX9_comingOrders 36 = .ok (.lcmp, 1) := by decide +kernel
theorem dX9_comingOrders_37 : decode cX9_comingOrders 37 = .ok (.ifCond .le 10, 3) := by decide +kernel
theorem dX9_comingOrders_40 : decode cX9_comingOrders 40 = .ok (.iload_n 3, 1) := by decide +kernel
theorem dX9_comingOrders_41 : decode cX9_comingOrders 41 = .ok (.iconst 1, 1) := by decide +kernel
theorem dX9_comingOrders_42 : decode cX9_comingOrders 42 = .ok (.iload 4, 2) := by decide +kernel
theorem dX9_comingOrders_44 : decode cX9_comingOrders 44 = .ok (.ishl, 1) := by decide +kernel
theorem dX9_comingOrders_45 : decode cX9_comingOrders 45 = .ok (.ior, 1) := by decide +kernel
theorem dX9_comingOrders_46 : decode cX9_comingOrders 46 = .ok (.istore_n 3, 1) := by decide +kernel
theorem dX9_comingOrders_47 : decode cX9_comingOrders 47 = .ok (.iinc 4 1, 3) := by decide +kernel
theorem dX9_comingOrders_50 : decode cX9_comingOrders 50 = .ok (.goto (-31), 3) := by decide +kernel
theorem dX9_comingOrders_53 : decode cX9_comingOrders 53 = .ok (.iload_n 3, 1) := by decide +kernel
theorem dX9_comingOrders_54 : decode cX9_comingOrders 54 = .ok (.ireturn, 1) := by decide +kernel
theorem dX9_areApart_0 : decode cX9_areApart 0 = .ok (.iconst 0, 1) := by decide +kernel
theorem dX9_areApart_1 : decode cX9_areApart 1 = .ok (.istore_n 2, 1) := by decide +kernel
theorem dX9_areApart_2 : decode cX9_areApart 2 = .ok (.iconst 0, 1) := by decide +kernel
theorem dX9_areApart_3 : decode cX9_areApart 3 = .ok (.istore_n 3, 1) := by decide +kernel
theorem dX9_areApart_4 : decode cX9_areApart 4 = .ok (.iload_n 3, 1) := by decide +kernel
theorem dX9_areApart_5 : decode cX9_areApart 5 = .ok (.iconst 5, 1) := by decide +kernel
theorem dX9_areApart_6 : decode cX9_areApart 6 = .ok (.if_icmp .ge 42, 3) := by decide +kernel
theorem dX9_areApart_9 : decode cX9_areApart 9 = .ok (.iload_n 1, 1) := by decide +kernel
theorem dX9_areApart_10 : decode cX9_areApart 10 = .ok (.iload_n 3, 1) := by decide +kernel
theorem dX9_areApart_11 : decode cX9_areApart 11 = .ok (.ishr, 1) := by decide +kernel
theorem dX9_areApart_12 : decode cX9_areApart 12 = .ok (.iconst 1, 1) := by decide +kernel
theorem dX9_areApart_13 : decode cX9_areApart 13 = .ok (.iand, 1) := by decide +kernel
theorem dX9_areApart_14 : decode cX9_areApart 14 = .ok (.ifCond .ne 6, 3) := by decide +kernel
theorem dX9_areApart_17 : decode cX9_areApart 17 = .ok (.goto 25, 3) := by decide +kernel
theorem dX9_areApart_20 : decode cX9_areApart 20 = .ok (.iload_n 2, 1) := by decide +kernel
theorem dX9_areApart_21 : decode cX9_areApart 21 = .ok (.aload_n 0, 1) := by decide +kernel
theorem dX9_areApart_22 : decode cX9_areApart 22 = .ok (.getfield 75, 3) := by decide +kernel
theorem dX9_areApart_25 : decode cX9_areApart 25 = .ok (.iload_n 3, 1) := by decide +kernel
theorem dX9_areApart_26 : decode cX9_areApart 26 = .ok (.iaload, 1) := by decide +kernel
theorem dX9_areApart_27 : decode cX9_areApart 27 = .ok (.iand, 1) := by decide +kernel
theorem dX9_areApart_28 : decode cX9_areApart 28 = .ok (.ifCond .eq 5, 3) := by decide +kernel
theorem dX9_areApart_31 : decode cX9_areApart 31 = .ok (.iconst 0, 1) := by decide +kernel
theorem dX9_areApart_32 : decode cX9_areApart 32 = .ok (.ireturn, 1) := by decide +kernel
theorem dX9_areApart_33 : decode cX9_areApart 33 = .ok (.iload_n 2, 1) := by decide +kernel
theorem dX9_areApart_34 : decode cX9_areApart 34 = .ok (.aload_n 0, 1) := by decide +kernel
theorem dX9_areApart_35 : decode cX9_areApart 35 = .ok (.getfield 75, 3) := by decide +kernel
theorem dX9_areApart_38 : decode cX9_areApart 38 = .ok (.iload_n 3, 1) := by decide +kernel
theorem dX9_areApart_39 : decode cX9_areApart 39 = .ok (.iaload, 1) := by decide +kernel
theorem dX9_areApart_40 : decode cX9_areApart 40 = .ok (.ior, 1) := by decide +kernel
theorem dX9_areApart_41 : decode cX9_areApart 41 = .ok (.istore_n 2, 1) := by decide +kernel
theorem dX9_areApart_42 : decode cX9_areApart 42 = .ok (.iinc 3 1, 3) := by decide +kernel
theorem dX9_areApart_45 : decode cX9_areApart 45 = .ok (.goto (-41), 3) := by decide +kernel
theorem dX9_areApart_48 : decode cX9_areApart 48 = .ok (.iconst 1, 1) := by decide +kernel
theorem dX9_areApart_49 : decode cX9_areApart 49 = .ok (.ireturn, 1) := by decide +kernel
set_option maxRecDepth 20000 in
theorem ggX9_inLeastTerms_X9_commonDivisor : GoodIn wsX9_inLeastTerms wsX9_commonDivisor := goodIn_r _ [4] (by decide +kernel) (by decide +kernel)
set_option maxRecDepth 20000 in
theorem gX9_inLeastTerms_X9_commonDivisor : GoodIn wsX9_inLeastTerms (va_wsS RX9 251 yX9_commonDivisor wsX9_commonDivisor) := goodIn_app (goodIn_of _ (by decide +kernel)) ggX9_inLeastTerms_X9_commonDivisor
theorem dX9_inLeastTerms_0 : decode cX9_inLeastTerms 0 = .ok (.lload_n 0, 1) := by decide +kernel
theorem dX9_inLeastTerms_1 : decode cX9_inLeastTerms 1 = .ok (.lload_n 2, 1) := by decide +kernel
theorem dX9_inLeastTerms_2 : decode cX9_inLeastTerms 2 = .ok (.invokestatic 251, 3) := by decide +kernel
theorem dX9_inLeastTerms_5 : decode cX9_inLeastTerms 5 = .ok (.lstore 5, 2) := by decide +kernel
theorem dX9_inLeastTerms_7 : decode cX9_inLeastTerms 7 = .ok (.lload 5, 2) := by decide +kernel
theorem dX9_inLeastTerms_9 : decode cX9_inLeastTerms 9 = .ok (.lconst 0, 1) := by decide +kernel
theorem dX9_inLeastTerms_10 : decode cX9_inLeastTerms 10 = .ok (.lcmp, 1) := by decide +kernel
theorem dX9_inLeastTerms_11 : decode cX9_inLeastTerms 11 = .ok (.ifCond .gt 14, 3) := by decide +kernel
theorem dX9_inLeastTerms_14 : decode cX9_inLeastTerms 14 = .ok (.iload 4, 2) := by decide +kernel
theorem dX9_inLeastTerms_16 : decode cX9_inLeastTerms 16 = .ok (.ifCond .eq 7, 3) := by decide +kernel
theorem dX9_inLeastTerms_19 : decode cX9_inLeastTerms 19 = .ok (.lload_n 0, 1) := by decide +kernel
theorem dX9_inLeastTerms_20 : decode cX9_inLeastTerms 20 = .ok (.goto 4, 3) := by decide +kernel
theorem dX9_inLeastTerms_23 : decode cX9_inLeastTerms 23 = .ok (.lload_n 2, 1) := by decide +kernel
theorem dX9_inLeastTerms_24 : decode cX9_inLeastTerms 24 = .ok (.lreturn, 1) := by decide +kernel
theorem dX9_inLeastTerms_25 : decode cX9_inLeastTerms 25 = .ok (.iload 4, 2) := by decide +kernel
theorem dX9_inLeastTerms_27 : decode cX9_inLeastTerms 27 = .ok (.ifCond .eq 10, 3) := by decide +kernel
theorem dX9_inLeastTerms_30 : decode cX9_inLeastTerms 30 = .ok (.lload_n 0, 1) := by decide +kernel
theorem dX9_inLeastTerms_31 : decode cX9_inLeastTerms 31 = .ok (.lload 5, 2) := by decide +kernel
theorem dX9_inLeastTerms_33 : decode cX9_inLeastTerms 33 = .ok (.ldiv, 1) := by decide +kernel
theorem dX9_inLeastTerms_34 : decode cX9_inLeastTerms 34 = .ok (.goto 7, 3) := by decide +kernel
theorem dX9_inLeastTerms_37 : decode cX9_inLeastTerms 37 = .ok (.lload_n 2, 1) := by decide +kernel
theorem dX9_inLeastTerms_38 : decode cX9_inLeastTerms 38 = .ok (.lload 5, 2) := by decide +kernel
theorem dX9_inLeastTerms_40 : decode cX9_inLeastTerms 40 = .ok (.ldiv, 1) := by decide +kernel
theorem dX9_inLeastTerms_41 : decode cX9_inLeastTerms 41 = .ok (.lreturn, 1) := by decide +kernel
theorem dX9_commonDivisor_0 : decode cX9_commonDivisor 0 = .ok (.lload_n 0, 1) := by decide +kernel
theorem dX9_commonDivisor_1 : decode cX9_commonDivisor 1 = .ok (.lstore 4, 2) := by decide +kernel
theorem dX9_commonDivisor_3 : decode cX9_commonDivisor 3 = .ok (.lload_n 2, 1) := by decide +kernel
theorem dX9_commonDivisor_4 : decode cX9_commonDivisor 4 = .ok (.lstore 6, 2) := by decide +kernel
theorem dX9_commonDivisor_6 : decode cX9_commonDivisor 6 = .ok (.iconst 0, 1) := by decide +kernel
theorem dX9_commonDivisor_7 : decode cX9_commonDivisor 7 = .ok (.istore 8, 2) := by decide +kernel
theorem dX9_commonDivisor_9 : decode cX9_commonDivisor 9 = .ok (.iload 8, 2) := by decide +kernel
theorem dX9_commonDivisor_11 : decode cX9_commonDivisor 11 = .ok (.bipush 100, 2) := by decide +kernel
theorem dX9_commonDivisor_13 : decode cX9_commonDivisor 13 = .ok (.if_icmp .ge 31, 3) := by decide +kernel
theorem dX9_commonDivisor_16 : decode cX9_commonDivisor 16 = .ok (.lload 6, 2) := by decide +kernel
theorem dX9_commonDivisor_18 : decode cX9_commonDivisor 18 = .ok (.lconst 0, 1) := by decide +kernel
theorem dX9_commonDivisor_19 : decode cX9_commonDivisor 19 = .ok (.lcmp, 1) := by decide +kernel
theorem dX9_commonDivisor_20 : decode cX9_commonDivisor 20 = .ok (.ifCond .eq 24, 3) := by decide +kernel
theorem dX9_commonDivisor_23 : decode cX9_commonDivisor 23 = .ok (.lload 4, 2) := by decide +kernel
theorem dX9_commonDivisor_25 : decode cX9_commonDivisor 25 = .ok (.lload 6, 2) := by decide +kernel
theorem dX9_commonDivisor_27 : decode cX9_commonDivisor 27 = .ok (.lrem, 1) := by decide +kernel
theorem dX9_commonDivisor_28 : decode cX9_commonDivisor 28 = .ok (.lstore 9, 2) := by decide +kernel
theorem dX9_commonDivisor_30 : decode cX9_commonDivisor 30 = .ok (.lload 6, 2) := by decide +kernel
theorem dX9_commonDivisor_32 : decode cX9_commonDivisor 32 = .ok (.lstore 4, 2) := by decide +kernel
theorem dX9_commonDivisor_34 : decode cX9_commonDivisor 34 = .ok (.lload 9, 2) := by decide +kernel
theorem dX9_commonDivisor_36 : decode cX9_commonDivisor 36 = .ok (.lstore 6, 2) := by decide +kernel
theorem dX9_commonDivisor_38 : decode cX9_commonDivisor 38 = .ok (.iinc 8 1, 3) := by decide +kernel
theorem dX9_commonDivisor_41 : decode cX9_commonDivisor 41 = .ok (.goto (-32), 3) := by decide +kernel
theorem dX9_commonDivisor_44 : decode cX9_commonDivisor 44 = .ok (.lload 4, 2) := by decide +kernel
theorem dX9_commonDivisor_46 : decode cX9_commonDivisor 46 = .ok (.lreturn, 1) := by decide +kernel
