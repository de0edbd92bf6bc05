set_option maxRecDepth 20000 in
theorem ggX0_init_X5_init : GoodIn wsX0_init wsX5_init := goodIn_r _ [12, 13, 2, 3, 14, 15, 16, 17, 18, 19, 20, 21, 22, 23, 24, 28, 29, 30, 31, 32, 33, 34, 35, 36] (by decide +kernel) (by decide +kernel)
set_option maxRecDepth 20000 in
theorem gX0_init_X5_init : GoodIn wsX0_init (wsX5_init) := ggX0_init_X5_init
theorem dX0_init_0 : decode cX0_init 0 = .ok (.aload_n 0, 1) := by decide +kernel
theorem dX0_init_1 : decode cX0_init 1 = .ok (.invokespecial 3, 3) := by decide +kernel
theorem dX0_init_4 : decode cX0_init 4 = .ok (.aload_n 0, 1) := by decide +kernel
theorem dX0_init_5 : decode cX0_init 5 = .ok (.bipush 12, 2) := by decide +kernel
theorem dX0_init_7 : decode cX0_init 7 = .ok (.anewarray 9, 3) := by decide +kernel
theorem dX0_init_10 : decode cX0_init 10 = .ok (.putfield 11, 3) := by decide +kernel
theorem dX0_init_13 : decode cX0_init 13 = .ok (.aload_n 0, 1) := by decide +kernel
theorem dX0_init_14 : decode cX0_init 14 = .ok (.iconst 0, 1) := by decide +kernel
theorem dX0_init_15 : decode cX0_init 15 = .ok (.putfield 17, 3) := by decide +kernel
theorem dX0_init_18 : decode cX0_init 18 = .ok (.aload_n 0, 1) := by decide +kernel
theorem dX0_init_19 : decode cX0_init 19 = .ok (.iconst 0, 1) := by decide +kernel
theorem dX0_init_20 : decode cX0_init 20 = .ok (.putfield 21, 3) := by decide +kernel
theorem dX0_init_23 : decode cX0_init 23 = .ok (.iconst 0, 1) := by decide +kernel
theorem dX0_init_24 : decode cX0_init 24 = .ok (.istore_n 1, 1) := by decide +kernel
theorem dX0_init_25 : decode cX0_init 25 = .ok (.iload_n 1, 1) := by decide +kernel
theorem dX0_init_26 : decode cX0_init 26 = .ok (.bipush 12, 2) := by decide +kernel
theorem dX0_init_28 : decode cX0_init 28 = .ok (.if_icmp .ge 22, 3) := by decide +kernel
theorem dX0_init_31 : decode cX0_init 31 = .ok (.aload_n 0, 1) := by decide +kernel
theorem dX0_init_32 : decode cX0_init 32 = .ok (.getfield 11, 3) := by decide +kernel
theorem dX0_init_35 : decode cX0_init 35 = .ok (.iload_n 1, 1) := by decide +kernel
theorem dX0_init_36 : decode cX0_init 36 = .ok (.new 9, 3) := by decide +kernel
theorem dX0_init_39 : decode cX0_init 39 = .ok (.dup, 1) := by decide +kernel
theorem dX0_init_40 : decode cX0_init 40 = .ok (.invokespecial 24, 3) := by decide +kernel
theorem dX0_init_43 : decode cX0_init 43 = .ok (.aastore, 1) := by decide +kernel
theorem dX0_init_44 : decode cX0_init 44 = .ok (.iinc 1 1, 3) := by decide +kernel
theorem dX0_init_47 : decode cX0_init 47 = .ok (.goto (-22), 3) := by decide +kernel
theorem dX0_init_50 : decode cX0_init 50 = .ok (.return_, 1) := by decide +kernel
theorem dX0_clear_0 : decode cX0_clear 0 = .ok (.aload_n 0, 1) := by decide +kernel
theorem dX0_clear_1 : decode cX0_clear 1 = .ok (.iconst 0, 1) := by decide +kernel
theorem dX0_clear_2 : decode cX0_clear 2 = .ok (.putfield 21, 3) := by decide +kernel
theorem dX0_clear_5 : decode cX0_clear 5 = .ok (.return_, 1) := by decide +kernel
set_option maxRecDepth 20000 in
theorem ggX0_note_X5_copyFrom : GoodIn wsX0_note wsX5_copyFrom := goodIn_r _ [8, 9, 10, 11, 12, 13, 14, 15, 16, 17, 21, 22, 23, 24, 25, 26, 27, 28, 29] (by decide +kernel) (by decide +kernel)
set_option maxRecDepth 20000 in
theorem gX0_note_X5_copyFrom : GoodIn wsX0_note (wsV RX0 25 RX5 yX5_copyFrom wsX5_copyFrom) := goodIn_app (goodIn_of _ (by decide +kernel)) ggX0_note_X5_copyFrom
theorem dX0_note_0 : decode cX0_note 0 = .ok (.aload_n 0, 1) := by decide +kernel
theorem dX0_note_1 : decode cX0_note 1 = .ok (.getfield 21, 3) := by decide +kernel
theorem dX0_note_4 : decode cX0_note 4 = .ok (.bipush 12, 2) := by decide +kernel
theorem dX0_note_6 : decode cX0_note 6 = .ok (.if_icmp .ne 26, 3) := by decide +kernel
theorem dX0_note_9 : decode cX0_note 9 = .ok (.aload_n 0, 1) := by decide +kernel
theorem dX0_note_10 : decode cX0_note 10 = .ok (.aload_n 0, 1) := by decide +kernel
theorem dX0_note_11 : decode cX0_note 11 = .ok (.getfield 17, 3) := by decide +kernel
theorem dX0_note_14 : decode cX0_note 14 = .ok (.iconst 1, 1) := by decide +kernel
theorem dX0_note_15 : decode cX0_note 15 = .ok (.iadd, 1) := by decide +kernel
theorem dX0_note_16 : decode cX0_note 16 = .ok (.bipush 12, 2) := by decide +kernel
theorem dX0_note_18 : decode cX0_note 18 = .ok (.irem, 1) := by decide +kernel
theorem dX0_note_19 : decode cX0_note 19 = .ok (.putfield 17, 3) := by decide +kernel
theorem dX0_note_22 : decode cX0_note 22 = .ok (.aload_n 0, 1) := by decide +kernel
theorem dX0_note_23 : decode cX0_note 23 = .ok (.dup, 1) := by decide +kernel
theorem dX0_note_24 : decode cX0_note 24 = .ok (.getfield 21, 3) := by decide +kernel
theorem dX0_note_27 : decode cX0_note 27 = .ok (.iconst 1, 1) := by decide +kernel
theorem dX0_note_28 : decode cX0_note 28 = .ok (.isub, 1) := by decide +kernel
theorem dX0_note_29 : decode cX0_note 29 = .ok (.putfield 21, 3) := by decide +kernel
theorem dX0_note_32 : decode cX0_note 32 = .ok (.aload_n 0, 1) := by decide +kernel
theorem dX0_note_33 : decode cX0_note 33 = .ok (.getfield 11, 3) := by decide +kernel
theorem dX0_note_36 : decode cX0_note 36 = .ok (.aload_n 0, 1) := by decide +kernel
theorem dX0_note_37 : decode cX0_note 37 = .ok (.getfield 17, 3) := by decide +kernel
theorem dX0_note_40 : decode cX0_note 40 = .ok (.aload_n 0, 1) := by decide +kernel
theorem dX0_note_41 : decode cX0_note 41 = .ok (.getfield 21, 3) := by decide +kernel
theorem dX0_note_44 : decode cX0_note 44 = .ok (.iadd, 1) := by decide +kernel
theorem dX0_note_45 : decode cX0_note 45 = .ok (.bipush 12, 2) := by decide +kernel
theorem dX0_note_47 : decode cX0_note 47 = .ok (.irem, 1) := by decide +kernel
theorem dX0_note_48 : decode cX0_note 48 = .ok (.aaload, 1) := by decide +kernel
theorem dX0_note_49 : decode cX0_note 49 = .ok (.aload_n 1, 1) := by decide +kernel
theorem dX0_note_50 : decode cX0_note 50 = .ok (.invokevirtual 25, 3) := by decide +kernel
theorem dX0_note_53 : decode cX0_note 53 = .ok (.aload_n 0, 1) := by decide +kernel
theorem dX0_note_54 : decode cX0_note 54 = .ok (.dup, 1) := by decide +kernel
theorem dX0_note_55 : decode cX0_note 55 = .ok (.getfield 21, 3) := by decide +kernel
theorem dX0_note_58 : decode cX0_note 58 = .ok (.iconst 1, 1) := by decide +kernel
theorem dX0_note_59 : decode cX0_note 59 = .ok (.iadd, 1) := by decide +kernel
theorem dX0_note_60 : decode cX0_note 60 = .ok (.putfield 21, 3) := by decide +kernel
theorem dX0_note_63 : decode cX0_note 63 = .ok (.return_, 1) := by decide +kernel
set_option maxRecDepth 20000 in
theorem ggX0_takeBack_X5_copyFrom : GoodIn wsX0_takeBack wsX5_copyFrom := goodIn_r _ [8, 9, 10, 11, 12, 13, 14, 15, 16, 17, 21, 22, 23, 24, 25, 26, 27, 28, 29] (by decide +kernel) (by decide +kernel)
set_option maxRecDepth 20000 in
theorem gX0_takeBack_X5_copyFrom : GoodIn wsX0_takeBack (wsV RX0 25 RX5 yX5_copyFrom wsX5_copyFrom) := goodIn_app (goodIn_of _ (by decide +kernel)) ggX0_takeBack_X5_copyFrom
theorem dX0_takeBack_0 : decode cX0_takeBack 0 = .ok (.aload_n 0, 1) := by decide +kernel
theorem dX0_takeBack_1 : decode cX0_takeBack 1 = .ok (.getfield 21, 3) := by decide +kernel
theorem dX0_takeBack_4 : decode cX0_takeBack 4 = .ok (.ifCond .le 34, 3) := by decide +kernel
theorem dX0_takeBack_7 : decode cX0_takeBack 7 = .ok (.aload_n 0, 1) := by decide +kernel
theorem dX0_takeBack_8 : decode cX0_takeBack 8 = .ok (.dup, 1) := by decide +kernel
theorem dX0_takeBack_9 : decode cX0_takeBack 9 = .ok (.getfield 21, 3) := by decide +kernel
theorem dX0_takeBack_12 : decode cX0_takeBack 12 = .ok (.iconst 1, 1) := by decide +kernel
theorem dX0_takeBack_13 : decode cX0_takeBack 13 = .ok (.isub, 1) := by decide +kernel
theorem dX0_takeBack_14 : decode cX0_takeBack 14 = .ok (.putfield 21, 3) := by decide +kernel
theorem dX0_takeBack_17 : decode cX0_takeBack 17 = .ok (.aload_n 1, 1) := by decide +kernel
theorem dX0_takeBack_18 : decode cX0_takeBack 18 = .ok (.aload_n 0, 1) := by decide +kernel
theorem dX0_takeBack_19 : decode cX0_takeBack 19 = .ok (.getfield 11, 3) := by decide +kernel
theorem dX0_takeBack_22 : decode cX0_takeBack 22 = .ok (.aload_n 0, 1) := by decide +kernel
theorem dX0_takeBack_23 : decode cX0_takeBack 23 = .ok (.getfield 17, 3) := by decide +kernel
theorem dX0_takeBack_26 : decode cX0_takeBack 26 = .ok (.aload_n 0, 1) := by decide +kernel
theorem dX0_takeBack_27 : decode cX0_takeBack 27 = .ok (.getfield 21, 3) := by decide +kernel
theorem dX0_takeBack_30 : decode cX0_takeBack 30 = .ok (.iadd, 1) := by decide +kernel
theorem dX0_takeBack_31 : decode cX0_takeBack 31 = .ok (.bipush 12, 2) := by decide +kernel
theorem dX0_takeBack_33 : decode cX0_takeBack 33 = .ok (.irem, 1) := by decide +kernel
theorem dX0_takeBack_34 : decode cX0_takeBack 34 = .ok (.aaload, 1) := by decide +kernel
theorem dX0_takeBack_35 : decode cX0_takeBack 35 = .ok (.invokevirtual 25, 3) := by decide +kernel
theorem dX0_takeBack_38 : decode cX0_takeBack 38 = .ok (.return_, 1) := by decide +kernel
theorem dX1_init_0 : decode cX1_init 0 = .ok (.aload_n 0, 1) := by decide +kernel
theorem dX1_init_1 : decode cX1_init 1 = .ok (.invokespecial 3, 3) := by decide +kernel
theorem dX1_init_4 : decode cX1_init 4 = .ok (.aload_n 0, 1) := by decide +kernel
theorem dX1_init_5 : decode cX1_init 5 = .ok (.bipush 7, 2) := by decide +kernel
theorem dX1_init_7 : decode cX1_init 7 = .ok (.newarray .int, 2) := by decide +kernel
theorem dX1_init_9 : decode cX1_init 9 = .ok (.putfield 9, 3) := by decide +kernel
theorem dX1_init_12 : decode cX1_init 12 = .ok (.aload_n 0, 1) := by decide +kernel
theorem dX1_init_13 : decode cX1_init 13 = .ok (.sipush 175, 3) := by decide +kernel
theorem dX1_init_16 : decode cX1_init 16 = .ok (.newarray .int, 2) := by decide +kernel
theorem dX1_init_18 : decode cX1_init 18 = .ok (.putfield 15, 3) := by decide +kernel
theorem dX1_init_21 : decode cX1_init 21 = .ok (.aload_n 0, 1) := by decide +kernel
theorem dX1_init_22 : decode cX1_init 22 = .ok (.iconst 0, 1) := by decide +kernel
theorem dX1_init_23 : decode cX1_init 23 = .ok (.putfield 18, 3) := by decide +kernel
theorem dX1_init_26 : decode cX1_init 26 = .ok (.aload_n 0, 1) := by decide +kernel
theorem dX1_init_27 : decode cX1_init 27 = .ok (.iconst 0, 1) := by decide +kernel
theorem dX1_init_28 : decode cX1_init 28 = .ok (.putfield 22, 3) := by decide +kernel
theorem dX1_init_31 : decode cX1_init 31 = .ok (.return_, 1) := by decide +kernel
theorem dX1_clear_0 : decode cX1_clear 0 = .ok (.iconst 0, 1) := by decide +kernel
theorem dX1_clear_1 : decode cX1_clear 1 = .ok (.istore_n 1, 1) := by decide +kernel
theorem dX1_clear_2 : decode cX1_clear 2 = .ok (.iload_n 1, 1) := by decide +kernel
theorem dX1_clear_3 : decode cX1_clear 3 = .ok (.aload_n 0, 1) := by decide +kernel
theorem dX1_clear_4 : decode cX1_clear 4 = .ok (.getfield 15, 3) := by decide +kernel
theorem dX1_clear_7 : decode cX1_clear 7 = .ok (.arraylength, 1) := by decide +kernel
theorem dX1_clear_8 : decode cX1_clear 8 = .ok (.if_icmp .ge 16, 3) := by decide +kernel
theorem dX1_clear_11 : decode cX1_clear 11 = .ok (.aload_n 0, 1) := by decide +kernel
theorem dX1_clear_12 : decode cX1_clear 12 = .ok (.getfield 15, 3) := by decide +kernel
theorem dX1_clear_15 : decode cX1_clear 15 = .ok (.iload_n 1, 1) := by decide +kernel
theorem dX1_clear_16 : decode cX1_clear 16 = .ok (.iconst 0, 1) := by decide +kernel
theorem dX1_clear_17 : decode cX1_clear 17 = .ok (.iastore, 1) := by decide +kernel
theorem dX1_clear_18 : decode cX1_clear 18 = .ok (.iinc 1 1, 3) := by decide +kernel
theorem dX1_clear_21 : decode cX1_clear 21 = .ok (.goto (-19), 3) := by decide +kernel
theorem dX1_clear_24 : decode cX1_clear 24 = .ok (.aload_n 0, 1) := by decide +kernel
theorem dX1_clear_25 : decode cX1_clear 25 = .ok (.iconst 0, 1) := by decide +kernel
theorem dX1_clear_26 : decode cX1_clear 26 = .ok (.putfield 18, 3) := by decide +kernel
theorem dX1_clear_29 : decode cX1_clear 29 = .ok (.aload_n 0, 1) := by decide +kernel
theorem dX1_clear_30 : decode cX1_clear 30 = .ok (.iconst 0, 1) := by decide +kernel
theorem dX1_clear_31 : decode cX1_clear 31 = .ok (.putfield 22, 3) := by decide +kernel
theorem dX1_clear_34 : decode cX1_clear 34 = .ok (.return_, 1) := by decide +kernel
theorem dX1_copyFrom_0 : decode cX1_copyFrom 0 = .ok (.aload_n 1, 1) := by decide +kernel
theorem dX1_copyFrom_1 : decode cX1_copyFrom 1 = .ok (.getfield 9, 3) := by decide +kernel
theorem dX1_copyFrom_4 : decode cX1_copyFrom 4 = .ok (.iconst 0, 1) := by decide +kernel
theorem dX1_copyFrom_5 : decode cX1_copyFrom 5 = .ok (.aload_n 0, 1) := by decide +kernel
theorem dX1_copyFrom_6 : decode cX1_copyFrom 6 = .ok (.getfield 9, 3) := by decide +kernel
theorem dX1_copyFrom_9 : decode cX1_copyFrom 9 = .ok (.iconst 0, 1) := by decide +kernel
theorem dX1_copyFrom_10 : decode cX1_copyFrom 10 = .ok (.bipush 7, 2) := by decide +kernel
theorem dX1_copyFrom_12 : decode cX1_copyFrom 12 = .ok (.invokestatic 25, 3) := by decide +kernel
theorem dX1_copyFrom_15 : decode cX1_copyFrom 15 = .ok (.aload_n 1, 1) := by decide +kernel
theorem dX1_copyFrom_16 : decode cX1_copyFrom 16 = .ok (.getfield 15, 3) := by decide +kernel
theorem dX1_copyFrom_19 : decode cX1_copyFrom 19 = .ok (.iconst 0, 1) := by decide +kernel
theorem dX1_copyFrom_20 : decode cX1_copyFrom 20 = .ok (.aload_n 0, 1) := by decide +kernel
theorem dX1_copyFrom_21 : decode cX1_copyFrom 21 = .ok (.getfield 15, 3) := by decide +kernel
theorem dX1_copyFrom_24 : decode cX1_copyFrom 24 = .ok (.iconst 0, 1) := by decide +kernel
theorem dX1_copyFrom_25 : decode cX1_copyFrom 25 = .ok (.sipush 175, 3) := by decide +kernel
theorem dX1_copyFrom_28 : decode cX1_copyFrom 28 = .ok (.invokestatic 25, 3) := by decide +kernel
theorem dX1_copyFrom_31 : decode cX1_copyFrom 31 = .ok (.aload_n 0, 1) := by decide +kernel
theorem dX1_copyFrom_32 : decode cX1_copyFrom 32 = .ok (.aload_n 1, 1) := by decide +kernel
theorem dX1_copyFrom_33 : decode cX1_copyFrom 33 = .ok (.getfield 18, 3) := by decide +kernel
theorem dX1_copyFrom_36 : decode cX1_copyFrom 36 = .ok (.putfield 18, 3) := by decide +kernel
theorem dX1_copyFrom_39 : decode cX1_copyFrom 39 = .ok (.aload_n 0, 1) := by decide +kernel
theorem dX1_copyFrom_40 : decode cX1_copyFrom 40 = .ok (.aload_n 1, 1) := by decide +kernel
theorem dX1_copyFrom_41 : decode cX1_copyFrom 41 = .ok (.getfield 22, 3) := by decide +kernel
theorem dX1_copyFrom_44 : decode cX1_copyFrom 44 = .ok (.putfield 22, 3) := by decide +kernel
theorem dX1_copyFrom_47 : decode cX1_copyFrom 47 = .ok (.return_, 1) := by decide +kernel
theorem dX1_addRank_0 : decode cX1_addRank 0 = .ok (.aload_n 0, 1) := by decide +kernel
theorem dX1_addRank_1 : decode cX1_addRank 1 = .ok (.getfield 18, 3) := by decide +kernel
theorem dX1_addRank_4 : decode cX1_addRank 4 = .ok (.bipush 7, 2) := by decide +kernel
theorem dX1_addRank_6 : decode cX1_addRank 6 = .ok (.if_icmp .ge 23, 3) := by decide +kernel
theorem dX1_addRank_9 : decode cX1_addRank 9 = .ok (.aload_n 0, 1) := by decide +kernel
theorem dX1_addRank_10 : decode cX1_addRank 10 = .ok (.getfield 9, 3) := by decide +kernel
theorem dX1_addRank_13 : decode cX1_addRank 13 = .ok (.aload_n 0, 1) := by decide +kernel
theorem dX1_addRank_14 : decode cX1_addRank 14 = .ok (.getfield 18, 3) := by decide +kernel
theorem dX1_addRank_17 : decode cX1_addRank 17 = .ok (.iload_n 1, 1) := by decide +kernel
theorem dX1_addRank_18 : decode cX1_addRank 18 = .ok (.iastore, 1) := by decide +kernel
theorem dX1_addRank_19 : decode cX1_addRank 19 = .ok (.aload_n 0, 1) := by decide +kernel
theorem dX1_addRank_20 : decode cX1_addRank 20 = .ok (.dup, 1) := by decide +kernel
theorem dX1_addRank_21 : decode cX1_addRank 21 = .ok (.getfield 18, 3) := by decide +kernel
theorem dX1_addRank_24 : decode cX1_addRank 24 = .ok (.iconst 1, 1) := by decide +kernel
theorem dX1_addRank_25 : decode cX1_addRank 25 = .ok (.iadd, 1) := by decide +kernel
theorem dX1_addRank_26 : decode cX1_addRank 26 = .ok (.putfield 18, 3) := by decide +kernel
theorem dX1_addRank_29 : decode cX1_addRank 29 = .ok (.return_, 1) := by decide +kernel
set_option maxRecDepth 20000 in
theorem ggX1_addSlip_X1_place : GoodIn wsX1_addSlip wsX1_place := goodIn_r _ [6] (by decide +kernel) (by decide +kernel)
set_option maxRecDepth 20000 in
theorem gX1_addSlip_X1_place : GoodIn wsX1_addSlip (va_wsS RX1 31 yX1_place wsX1_place) := goodIn_app (goodIn_of _ (by decide +kernel)) ggX1_addSlip_X1_place
theorem dX1_addSlip_0 : decode cX1_addSlip 0 = .ok (.aload_n 0, 1) := by decide +kernel
theorem dX1_addSlip_1 : decode cX1_addSlip 1 = .ok (.getfield 15, 3) := by decide +kernel
theorem dX1_addSlip_4 : decode cX1_addSlip 4 = .ok (.iload_n 1, 1) := by decide +kernel
theorem dX1_addSlip_5 : decode cX1_addSlip 5 = .ok (.iload_n 2, 1) := by decide +kernel
theorem dX1_addSlip_6 : decode cX1_addSlip 6 = .ok (.iload_n 3, 1) := by decide +kernel
theorem dX1_addSlip_7 : decode cX1_addSlip 7 = .ok (.invokestatic 31, 3) := by decide +kernel
theorem dX1_addSlip_10 : decode cX1_addSlip 10 = .ok (.iload 4, 2) := by decide +kernel
theorem dX1_addSlip_12 : decode cX1_addSlip 12 = .ok (.iastore, 1) := by decide +kernel
theorem dX1_addSlip_13 : decode cX1_addSlip 13 = .ok (.aload_n 0, 1) := by decide +kernel
theorem dX1_addSlip_14 : decode cX1_addSlip 14 = .ok (.dup, 1) := by decide +kernel
theorem dX1_addSlip_15 : decode cX1_addSlip 15 = .ok (.getfield 22, 3) := by decide +kernel
theorem dX1_addSlip_18 : decode cX1_addSlip 18 = .ok (.iconst 1, 1) := by decide +kernel
theorem dX1_addSlip_19 : decode cX1_addSlip 19 = .ok (.iadd, 1) := by decide +kernel
theorem dX1_addSlip_20 : decode cX1_addSlip 20 = .ok (.putfield 22, 3) := by decide +kernel
theorem dX1_addSlip_23 : decode cX1_addSlip 23 = .ok (.return_, 1) := by decide +kernel
theorem dX1_has_0 : decode cX1_has 0 = .ok (.iload_n 1, 1) := by decide +kernel
theorem dX1_has_1 : decode cX1_has 1 = .ok (.ifCond .lt 15, 3) := by decide +kernel
theorem dX1_has_4 : decode cX1_has 4 = .ok (.iload_n 1, 1) := by decide +kernel
theorem dX1_has_5 : decode cX1_has 5 = .ok (.aload_n 0, 1) := by decide +kernel
theorem dX1_has_6 : decode cX1_has 6 = .ok (.getfield 18, 3) := by decide +kernel
theorem dX1_has_9 : decode cX1_has 9 = .ok (.if_icmp .ge 7, 3) := by decide +kernel
theorem dX1_has_12 : decode cX1_has 12 = .ok (.iconst 1, 1) := by decide +kernel
theorem dX1_has_13 : decode cX1_has 13 = .ok (.goto 4, 3) := by decide +kernel
theorem dX1_has_16 : decode cX1_has 16 = .ok (.iconst 0, 1) := by decide +kernel
theorem dX1_has_17 : decode cX1_has 17 = .ok (.ireturn, 1) := by decide +kernel
set_option maxRecDepth 20000 in
theorem ggX1_canSlip_X1_slipped : GoodIn wsX1_canSlip wsX1_slipped := goodIn_r _ [5, 6, 7, 8, 4, 9, 10, 11, 12, 13, 18, 19, 20, 21] (by decide +kernel) (by decide +kernel)
set_option maxRecDepth 20000 in
theorem gX1_canSlip_X1_slipped : GoodIn wsX1_canSlip (wsV RX1 35 RX1 yX1_slipped wsX1_slipped) := goodIn_app (goodIn_of _ (by decide +kernel)) ggX1_canSlip_X1_slipped
set_option maxRecDepth 20000 in
theorem ggX1_canSlip_X1_canSlipTo : GoodIn wsX1_canSlip wsX1_canSlipTo := goodIn_r _ [17, 6, 7, 8, 4, 9, 10, 11, 12, 13, 18, 19, 20, 21] (by decide +kernel) (by decide +kernel)
set_option maxRecDepth 20000 in
theorem gX1_canSlip_X1_canSlipTo : GoodIn wsX1_canSlip (wsV RX1 39 RX1 yX1_canSlipTo wsX1_canSlipTo) := goodIn_app (goodIn_of _ (by decide +kernel)) ggX1_canSlip_X1_canSlipTo
theorem dX1_canSlip_0 : decode cX1_canSlip 0 = .ok (.aload_n 0, 1) := by decide +kernel
theorem dX1_canSlip_1 : decode cX1_canSlip 1 = .ok (.iload_n 1, 1) := by decide +kernel
theorem dX1_canSlip_2 : decode cX1_canSlip 2 = .ok (.iload_n 2, 1) := by decide +kernel
theorem dX1_canSlip_3 : decode cX1_canSlip 3 = .ok (.invokevirtual 35, 3) := by decide +kernel
theorem dX1_canSlip_6 : decode cX1_canSlip 6 = .ok (.bipush 10, 2) := by decide +kernel
theorem dX1_canSlip_8 : decode cX1_canSlip 8 = .ok (.if_icmp .lt 5, 3) := by decide +kernel
theorem dX1_canSlip_11 : decode cX1_canSlip 11 = .ok (.iconst 0, 1) := by decide +kernel
theorem dX1_canSlip_12 : decode cX1_canSlip 12 = .ok (.ireturn, 1) := by decide +kernel
theorem dX1_canSlip_13 : decode cX1_canSlip 13 = .ok (.iconst 0, 1) := by decide +kernel
theorem dX1_canSlip_14 : decode cX1_canSlip 14 = .ok (.istore_n 3, 1) := by decide +kernel
theorem dX1_canSlip_15 : decode cX1_canSlip 15 = .ok (.iload_n 3, 1) := by decide +kernel
theorem dX1_canSlip_16 : decode cX1_canSlip 16 = .ok (.iconst 5, 1) := by decide +kernel
theorem dX1_canSlip_17 : decode cX1_canSlip 17 = .ok (.if_icmp .ge 21, 3) := by decide +kernel
theorem dX1_canSlip_20 : decode cX1_canSlip 20 = .ok (.aload_n 0, 1) := by decide +kernel
theorem dX1_canSlip_21 : decode cX1_canSlip 21 = .ok (.iload_n 1, 1) := by decide +kernel
theorem dX1_canSlip_22 : decode cX1_canSlip 22 = .ok (.iload_n 2, 1) := by decide +kernel
theorem dX1_canSlip_23 : decode cX1_canSlip 23 = .ok (.iload_n 3, 1) := by decide +kernel
theorem dX1_canSlip_24 : decode cX1_canSlip 24 = .ok (.invokevirtual 39, 3) := by decide +kernel
theorem dX1_canSlip_27 : decode cX1_canSlip 27 = .ok (.ifCond .eq 5, 3) := by decide +kernel
theorem dX1_canSlip_30 : decode cX1_canSlip 30 = .ok (.iconst 1, 1) := by decide +kernel
theorem dX1_canSlip_31 : decode cX1_canSlip 31 = .ok (.ireturn, 1) := by decide +kernel
theorem dX1_canSlip_32 : decode cX1_canSlip 32 = .ok (.iinc 3 1, 3) := by decide +kernel
theorem dX1_canSlip_35 : decode cX1_canSlip 35 = .ok (.goto (-20), 3) := by decide +kernel
theorem dX1_canSlip_38 : decode cX1_canSlip 38 = .ok (.iconst 0, 1) := by decide +kernel
theorem dX1_canSlip_39 : decode cX1_canSlip 39 = .ok (.ireturn, 1) := by decide +kernel
set_option maxRecDepth 20000 in
theorem ggX1_canSlipTo_X1_slipTenths : GoodIn wsX1_canSlipTo wsX1_slipTenths := goodIn_r _ [5, 6, 7, 8, 4, 9, 10, 11, 12, 13] (by decide +kernel) (by decide +kernel)
set_option maxRecDepth 20000 in
theorem gX1_canSlipTo_X1_slipTenths : GoodIn wsX1_canSlipTo (wsV RX1 43 RX1 yX1_slipTenths wsX1_slipTenths) := goodIn_app (goodIn_of _ (by decide +kernel)) ggX1_canSlipTo_X1_slipTenths
theorem dX1_canSlipTo_0 : decode cX1_canSlipTo 0 = .ok (.iload_n 3, 1) := by decide +kernel
theorem dX1_canSlipTo_1 : decode cX1_canSlipTo 1 = .ok (.iload_n 2, 1) := by decide +kernel
theorem dX1_canSlipTo_2 : decode cX1_canSlipTo 2 = .ok (.if_icmp .eq 17, 3) := by decide +kernel
theorem dX1_canSlipTo_5 : decode cX1_canSlipTo 5 = .ok (.aload_n 0, 1) := by decide +kernel
theorem dX1_canSlipTo_6 : decode cX1_canSlipTo 6 = .ok (.iload_n 1, 1) := by decide +kernel
theorem dX1_canSlipTo_7 : decode cX1_canSlipTo 7 = .ok (.iload_n 2, 1) := by decide +kernel
theorem dX1_canSlipTo_8 : decode cX1_canSlipTo 8 = .ok (.iload_n 3, 1) := by decide +kernel
theorem dX1_canSlipTo_9 : decode cX1_canSlipTo 9 = .ok (.invokevirtual 43, 3) := by decide +kernel
theorem dX1_canSlipTo_12 : decode cX1_canSlipTo 12 = .ok (.ifCond .ne 7, 3) := by decide +kernel
theorem dX1_canSlipTo_15 : decode cX1_canSlipTo 15 = .ok (.iconst 1, 1) := by decide +kernel
theorem dX1_canSlipTo_16 : decode cX1_canSlipTo 16 = .ok (.goto 4, 3) := by decide +kernel
theorem dX1_canSlipTo_19 : decode cX1_canSlipTo 19 = .ok (.iconst 0, 1) := by decide +kernel
theorem dX1_canSlipTo_20 : decode cX1_canSlipTo 20 = .ok (.ireturn, 1) := by decide +kernel
set_option maxRecDepth 20000 in
theorem ggX1_slipped_X1_slipTenths : GoodIn wsX1_slipped wsX1_slipTenths := goodIn_r _ [5, 6, 7, 8, 4, 9, 10, 11, 12, 13] (by decide +kernel) (by decide +kernel)
set_option maxRecDepth 20000 in
theorem gX1_slipped_X1_slipTenths : GoodIn wsX1_slipped (wsV RX1 43 RX1 yX1_slipTenths wsX1_slipTenths) := goodIn_app (goodIn_of _ (by decide +kernel)) ggX1_slipped_X1_slipTenths
theorem dX1_slipped_0 : decode cX1_slipped 0 = .ok (.iconst 0, 1) := by decide +kernel
theorem dX1_slipped_1 : decode cX1_slipped 1 = .ok (.istore_n 3, 1) := by decide +kernel
theorem dX1_slipped_2 : decode cX1_slipped 2 = .ok (.iconst 0, 1) := by decide +kernel
theorem dX1_slipped_3 : decode cX1_slipped 3 = .ok (.istore 4, 2) := by decide +kernel
theorem dX1_slipped_5 : decode cX1_slipped 5 = .ok (.iload 4, 2) := by decide +kernel
theorem dX1_slipped_7 : decode cX1_slipped 7 = .ok (.iconst 5, 1) := by decide +kernel
theorem dX1_slipped_8 : decode cX1_slipped 8 = .ok (.if_icmp .ge 20, 3) := by decide +kernel
theorem dX1_slipped_11 : decode cX1_slipped 11 = .ok (.iload_n 3, 1) := by decide +kernel
theorem dX1_slipped_12 : decode cX1_slipped 12 = .ok (.aload_n 0, 1) := by decide +kernel
theorem dX1_slipped_13 : decode cX1_slipped 13 = .ok (.iload_n 1, 1) := by decide +kernel
theorem dX1_slipped_14 : decode cX1_slipped 14 = .ok (.iload_n 2, 1) := by decide +kernel
theorem dX1_slipped_15 : decode cX1_slipped 15 = .ok (.iload 4, 2) := by decide +kernel
theorem dX1_slipped_17 : decode cX1_slipped 17 = .ok (.invokevirtual 43, 3) := by decide +kernel
theorem dX1_slipped_20 : decode cX1_slipped 20 = .ok (.iadd, 1) := by decide +kernel
theorem dX1_slipped_21 : decode cX1_slipped 21 = .ok (.istore_n 3, 1) := by decide +kernel
theorem dX1_slipped_22 : decode cX1_slipped 22 = .ok (.iinc 4 1, 3) := by decide +kernel
theorem dX1_slipped_25 : decode cX1_slipped 25 = .ok (.goto (-20), 3) := by decide +kernel
theorem dX1_slipped_28 : decode cX1_slipped 28 = .ok (.iload_n 3, 1) := by decide +kernel
theorem dX1_slipped_29 : decode cX1_slipped 29 = .ok (.ireturn, 1) := by decide +kernel
set_option maxRecDepth 20000 in
theorem ggX1_slipTenths_X1_place : GoodIn wsX1_slipTenths wsX1_place := goodIn_r _ [5] (by decide +kernel) (by decide +kernel)
set_option maxRecDepth 20000 in
theorem gX1_slipTenths_X1_place : GoodIn wsX1_slipTenths (va_wsS RX1 31 yX1_place wsX1_place) := goodIn_app (goodIn_of _ (by decide +kernel)) ggX1_slipTenths_X1_place
theorem dX1_slipTenths_0 : decode cX1_slipTenths 0 = .ok (.aload_n 0, 1) := by decide +kernel
theorem dX1_slipTenths_1 : decode cX1_slipTenths 1 = .ok (.getfield 15, 3) := by decide +kernel
theorem dX1_slipTenths_4 : decode cX1_slipTenths 4 = .ok (.iload_n 1, 1) := by decide +kernel
theorem dX1_slipTenths_5 : decode cX1_slipTenths 5 = .ok (.iload_n 2, 1) := by decide +kernel
theorem dX1_slipTenths_6 : decode cX1_slipTenths 6 = .ok (.iload_n 3, 1) := by decide +kernel
theorem dX1_slipTenths_7 : decode cX1_slipTenths 7 = .ok (.invokestatic 31, 3) := by decide +kernel
theorem dX1_slipTenths_10 : decode cX1_slipTenths 10 = .ok (.iaload, 1) := by decide +kernel
theorem dX1_slipTenths_11 : decode cX1_slipTenths 11 = .ok (.ireturn, 1) := by decide +kernel
set_option maxRecDepth 20000 in
theorem ggX1_wayTenths_X1_slipped : GoodIn wsX1_wayTenths wsX1_slipped := goodIn_r _ [5, 6, 7, 8, 4, 9, 10, 11, 12, 13, 14, 15, 16, 17] (by decide +kernel) (by decide +kernel)
set_option maxRecDepth 20000 in
theorem gX1_wayTenths_X1_slipped : GoodIn wsX1_wayTenths (wsV RX1 35 RX1 yX1_slipped wsX1_slipped) := goodIn_app (goodIn_of _ (by decide +kernel)) ggX1_wayTenths_X1_slipped
set_option maxRecDepth 20000 in
theorem ggX1_wayTenths_X1_slipTenths : GoodIn wsX1_wayTenths wsX1_slipTenths := goodIn_r _ [9, 10, 11, 12, 4, 13, 14, 15, 16, 17] (by decide +kernel) (by decide +kernel)
set_option maxRecDepth 20000 in
theorem gX1_wayTenths_X1_slipTenths : GoodIn wsX1_wayTenths (wsV RX1 43 RX1 yX1_slipTenths wsX1_slipTenths) := goodIn_app (goodIn_of _ (by decide +kernel)) ggX1_wayTenths_X1_slipTenths
theorem dX1_wayTenths_0 : decode cX1_wayTenths 0 = .ok (.iload_n 2, 1) := by decide +kernel
theorem dX1_wayTenths_1 : decode cX1_wayTenths 1 = .ok (.iload_n 3, 1) := by decide +kernel
theorem dX1_wayTenths_2 : decode cX1_wayTenths 2 = .ok (.if_icmp .ne 15, 3) := by decide +kernel
theorem dX1_wayTenths_5 : decode cX1_wayTenths 5 = .ok (.bipush 10, 2) := by decide +kernel
theorem dX1_wayTenths_7 : decode cX1_wayTenths 7 = .ok (.aload_n 0, 1) := by decide +kernel
theorem dX1_wayTenths_8 : decode cX1_wayTenths 8 = .ok (.iload_n 1, 1) := by decide +kernel
theorem dX1_wayTenths_9 : decode cX1_wayTenths 9 = .ok (.iload_n 2, 1) := by decide +kernel
theorem dX1_wayTenths_10 : decode cX1_wayTenths 10 = .ok (.invokevirtual 35, 3) := by decide +kernel
theorem dX1_wayTenths_13 : decode cX1_wayTenths 13 = .ok (.isub, 1) := by decide +kernel
theorem dX1_wayTenths_14 : decode cX1_wayTenths 14 = .ok (.goto 10, 3) := by decide +kernel
theorem dX1_wayTenths_17 : decode cX1_wayTenths 17 = .ok (.aload_n 0, 1) := by decide +kernel
theorem dX1_wayTenths_18 : decode cX1_wayTenths 18 = .ok (.iload_n 1, 1) := by decide +kernel
theorem dX1_wayTenths_19 : decode cX1_wayTenths 19 = .ok (.iload_n 2, 1) := by decide +kernel
theorem dX1_wayTenths_20 : decode cX1_wayTenths 20 = .ok (.iload_n 3, 1) := by decide +kernel
theorem dX1_wayTenths_21 : decode cX1_wayTenths 21 = .ok (.invokevirtual 43, 3) := by decide +kernel
theorem dX1_wayTenths_24 : decode cX1_wayTenths 24 = .ok (.ireturn, 1) := by decide +kernel
theorem dX1_hears_0 : decode cX1_hears 0 = .ok (.aload_n 0, 1) := by decide +kernel
theorem dX1_hears_1 : decode cX1_hears 1 = .ok (.getfield 9, 3) := by decide +kernel
theorem dX1_hears_4 : decode cX1_hears 4 = .ok (.iload_n 1, 1) := by decide +kernel
theorem dX1_hears_5 : decode cX1_hears 5 = .ok (.iaload, 1) := by decide +kernel
theorem dX1_hears_6 : decode cX1_hears 6 = .ok (.iconst 2, 1) := by decide +kernel
theorem dX1_hears_7 : decode cX1_hears 7 = .ok (.if_icmp .eq 5, 3) := by decide +kernel
theorem dX1_hears_10 : decode cX1_hears 10 = .ok (.iload_n 2, 1) := by decide +kernel
theorem dX1_hears_11 : decode cX1_hears 11 = .ok (.ireturn, 1) := by decide +kernel
theorem dX1_hears_12 : decode cX1_hears 12 = .ok (.iload_n 2, 1) := by decide +kernel
theorem dX1_hears_13 : decode cX1_hears 13 = .ok (.iconst 2, 1) := by decide +kernel
theorem dX1_hears_14 : decode cX1_hears 14 = .ok (.if_icmp .ne 5, 3) := by decide +kernel
theorem dX1_hears_17 : decode cX1_hears 17 = .ok (.iconst 3, 1) := by decide +kernel
theorem dX1_hears_18 : decode cX1_hears 18 = .ok (.ireturn, 1) := by decide +kernel
theorem dX1_hears_19 : decode cX1_hears 19 = .ok (.iload_n 2, 1) := by decide +kernel
theorem dX1_hears_20 : decode cX1_hears 20 = .ok (.iconst 3, 1) := by decide +kernel
theorem dX1_hears_21 : decode cX1_hears 21 = .ok (.if_icmp .ne 7, 3) := by decide +kernel
theorem dX1_hears_24 : decode cX1_hears 24 = .ok (.iconst 2, 1) := by decide +kernel
theorem dX1_hears_25 : decode cX1_hears 25 = .ok (.goto 4, 3) := by decide +kernel
theorem dX1_hears_28 : decode cX1_hears 28 = .ok (.iload_n 2, 1) := by decide +kernel
theorem dX1_hears_29 : decode cX1_hears 29 = .ok (.ireturn, 1) := by decide +kernel
theorem dX1_place_0 : decode cX1_place 0 = .ok (.iload_n 0, 1) := by decide +kernel
theorem dX1_place_1 : decode cX1_place 1 = .ok (.iconst 5, 1) := by decide +kernel
theorem dX1_place_2 : decode cX1_place 2 = .ok (.imul, 1) := by decide +kernel
theorem dX1_place_3 : decode cX1_place 3 = .ok (.iload_n 1, 1) := by decide +kernel
theorem dX1_place_4 : decode cX1_place 4 = .ok (.iadd, 1) := by decide +kernel
theorem dX1_place_5 : decode cX1_place 5 = .ok (.iconst 5, 1) := by decide +kernel
theorem dX1_place_6 : decode cX1_place 6 = .ok (.imul, 1) := by decide +kernel
theorem dX1_place_7 : decode cX1_place 7 = .ok (.iload_n 2, 1) := by decide +kernel
theorem dX1_place_8 : decode cX1_place 8 = .ok (.iadd, 1) := by decide +kernel
theorem dX1_place_9 : decode cX1_place 9 = .ok (.ireturn, 1) := by decide +kernel
theorem dX2_init_0 : decode cX2_init 0 = .ok (.aload_n 0, 1) := by decide +kernel
theorem dX2_init_1 : decode cX2_init 1 = .ok (.invokespecial 3, 3) := by decide +kernel
theorem dX2_init_4 : decode cX2_init 4 = .ok (.aload_n 0, 1) := by decide +kernel
theorem dX2_init_5 : decode cX2_init 5 = .ok (.iconst 5, 1) := by decide +kernel
theorem dX2_init_6 : decode cX2_init 6 = .ok (.newarray .long, 2) := by decide +kernel
theorem dX2_init_8 : decode cX2_init 8 = .ok (.putfield 9, 3) := by decide +kernel
theorem dX2_init_11 : decode cX2_init 11 = .ok (.aload_n 0, 1) := by decide +kernel
theorem dX2_init_12 : decode cX2_init 12 = .ok (.iconst 5, 1) := by decide +kernel
theorem dX2_init_13 : decode cX2_init 13 = .ok (.newarray .long, 2) := by decide +kernel
theorem dX2_init_15 : decode cX2_init 15 = .ok (.putfield 15, 3) := by decide +kernel
theorem dX2_init_18 : decode cX2_init 18 = .ok (.aload_n 0, 1) := by decide +kernel
theorem dX2_init_19 : decode cX2_init 19 = .ok (.lconst 1, 1) := by decide +kernel
theorem dX2_init_20 : decode cX2_init 20 = .ok (.putfield 18, 3) := by decide +kernel
theorem dX2_init_23 : decode cX2_init 23 = .ok (.return_, 1) := by decide +kernel
set_option maxRecDepth 20000 in
theorem ggX2_spread_X1_hears : GoodIn wsX2_spread wsX1_hears := goodIn_r _ [8, 9, 39, 40, 41, 42] (by decide +kernel) (by decide +kernel)
set_option maxRecDepth 20000 in
theorem gX2_spread_X1_hears : GoodIn wsX2_spread (wsV RX2 22 RX1 yX1_hears wsX1_hears) := goodIn_app (goodIn_of _ (by decide +kernel)) ggX2_spread_X1_hears
set_option maxRecDepth 20000 in
theorem ggX2_spread_X2_goOverWay : GoodIn wsX2_spread wsX2_goOverWay := goodIn_r _ [14, 1, 15, 16, 17, 18, 19, 20, 21, 22, 7, 23, 24, 25, 26, 27, 28, 29, 30, 31, 32, 33, 34, 35, 4, 5, 6, 8, 9, 36, 37, 38, 39, 40, 41, 42] (by decide +kernel) (by decide +kernel)
set_option maxRecDepth 20000 in
theorem gX2_spread_X2_goOverWay : GoodIn wsX2_spread (wsV RX2 28 RX2 yX2_goOverWay wsX2_goOverWay) := goodIn_app (goodIn_of _ (by decide +kernel)) ggX2_spread_X2_goOverWay
theorem dX2_spread_0 : decode cX2_spread 0 = .ok (.iconst 0, 1) := by decide +kernel
theorem dX2_spread_1 : decode cX2_spread 1 = .ok (.istore 5, 2) := by decide +kernel
theorem dX2_spread_3 : decode cX2_spread 3 = .ok (.iload 5, 2) := by decide +kernel
theorem dX2_spread_5 : decode cX2_spread 5 = .ok (.iconst 5, 1) := by decide +kernel
theorem dX2_spread_6 : decode cX2_spread 6 = .ok (.if_icmp .ge 17, 3) := by decide +kernel
theorem dX2_spread_9 : decode cX2_spread 9 = .ok (.aload_n 0, 1) := by decide +kernel
theorem dX2_spread_10 : decode cX2_spread 10 = .ok (.getfield 9, 3) := by decide +kernel
theorem dX2_spread_13 : decode cX2_spread 13 = .ok (.iload 5, 2) := by decide +kernel
theorem dX2_spread_15 : decode cX2_spread 15 = .ok (.lconst 0, 1) := by decide +kernel
theorem dX2_spread_16 : decode cX2_spread 16 = .ok (.lastore, 1) := by decide +kernel
theorem dX2_spread_17 : decode cX2_spread 17 = .ok (.iinc 5 1, 3) := by decide +kernel
theorem dX2_spread_20 : decode cX2_spread 20 = .ok (.goto (-17), 3) := by decide +kernel
theorem dX2_spread_23 : decode cX2_spread 23 = .ok (.aload_n 0, 1) := by decide +kernel
theorem dX2_spread_24 : decode cX2_spread 24 = .ok (.getfield 9, 3) := by decide +kernel
theorem dX2_spread_27 : decode cX2_spread 27 = .ok (.aload_n 1, 1) := by decide +kernel
theorem dX2_spread_28 : decode cX2_spread 28 = .ok (.iload_n 2, 1) := by decide +kernel
theorem dX2_spread_29 : decode cX2_spread 29 = .ok (.iload 4, 2) := by decide +kernel
theorem dX2_spread_31 : decode cX2_spread 31 = .ok (.invokevirtual 22, 3) := by decide +kernel
theorem dX2_spread_34 : decode cX2_spread 34 = .ok (.lconst 1, 1) := by decide +kernel
theorem dX2_spread_35 : decode cX2_spread 35 = .ok (.lastore, 1) := by decide +kernel
theorem dX2_spread_36 : decode cX2_spread 36 = .ok (.aload_n 0, 1) := by decide +kernel
theorem dX2_spread_37 : decode cX2_spread 37 = .ok (.lconst 1, 1) := by decide +kernel
theorem dX2_spread_38 : decode cX2_spread 38 = .ok (.putfield 18, 3) := by decide +kernel
theorem dX2_spread_41 : decode cX2_spread 41 = .ok (.iload_n 2, 1) := by decide +kernel
theorem dX2_spread_42 : decode cX2_spread 42 = .ok (.iconst 1, 1) := by decide +kernel
theorem dX2_spread_43 : decode cX2_spread 43 = .ok (.iadd, 1) := by decide +kernel
theorem dX2_spread_44 : decode cX2_spread 44 = .ok (.istore 5, 2) := by decide +kernel
theorem dX2_spread_46 : decode cX2_spread 46 = .ok (.iload 5, 2) := by decide +kernel
theorem dX2_spread_48 : decode cX2_spread 48 = .ok (.iload_n 3, 1) := by decide +kernel
theorem dX2_spread_49 : decode cX2_spread 49 = .ok (.if_icmp .gt 28, 3) := by decide +kernel
theorem dX2_spread_52 : decode cX2_spread 52 = .ok (.aload_n 0, 1) := by decide +kernel
theorem dX2_spread_53 : decode cX2_spread 53 = .ok (.aload_n 1, 1) := by decide +kernel
theorem dX2_spread_54 : decode cX2_spread 54 = .ok (.iload 5, 2) := by decide +kernel
theorem dX2_spread_56 : decode cX2_spread 56 = .ok (.invokevirtual 28, 3) := by decide +kernel
theorem dX2_spread_59 : decode cX2_spread 59 = .ok (.aload_n 0, 1) := by decide +kernel
theorem dX2_spread_60 : decode cX2_spread 60 = .ok (.dup, 1) := by decide +kernel
theorem dX2_spread_61 : decode cX2_spread 61 = .ok (.getfield 18, 3) := by decide +kernel
theorem dX2_spread_64 : decode cX2_spread 64 = .ok (.ldc2_w 32, 3) := by decide +kernel
theorem dX2_spread_67 : decode cX2_spread 67 = .ok (.lmul, 1) := by decide +kernel
theorem dX2_spread_68 : decode cX2_spread 68 = .ok (.putfield 18, 3) := by decide +kernel
theorem dX2_spread_71 : decode cX2_spread 71 = .ok (.iinc 5 1, 3) := by decide +kernel
theorem dX2_spread_74 : decode cX2_spread 74 = .ok (.goto (-28), 3) := by decide +kernel
theorem dX2_spread_77 : decode cX2_spread 77 = .ok (.return_, 1) := by decide +kernel
set_option maxRecDepth 20000 in
theorem ggX2_goOverWay_X1_wayTenths : GoodIn wsX2_goOverWay wsX1_wayTenths := goodIn_r _ [11, 12, 13, 14, 10, 15, 16, 17, 18, 19, 20, 21, 22, 23, 32, 33, 34, 35] (by decide +kernel) (by decide +kernel)
set_option maxRecDepth 20000 in
theorem gX2_goOverWay_X1_wayTenths : GoodIn wsX2_goOverWay (wsV RX2 34 RX1 yX1_wayTenths wsX1_wayTenths) := goodIn_app (goodIn_of _ (by decide +kernel)) ggX2_goOverWay_X1_wayTenths
set_option maxRecDepth 20000 in
theorem ggX2_goOverWay_X1_hears : GoodIn wsX2_goOverWay wsX1_hears := goodIn_r _ [27, 28, 32, 33, 34, 35] (by decide +kernel) (by decide +kernel)
set_option maxRecDepth 20000 in
theorem gX2_goOverWay_X1_hears : GoodIn wsX2_goOverWay (wsV RX2 22 RX1 yX1_hears wsX1_hears) := goodIn_app (goodIn_of _ (by decide +kernel)) ggX2_goOverWay_X1_hears
theorem dX2_goOverWay_0 : decode cX2_goOverWay 0 = .ok (.iconst 0, 1) := by decide +kernel
theorem dX2_goOverWay_1 : decode cX2_goOverWay 1 = .ok (.istore_n 3, 1) := by decide +kernel
theorem dX2_goOverWay_2 : decode cX2_goOverWay 2 = .ok (.iload_n 3, 1) := by decide +kernel
theorem dX2_goOverWay_3 : decode cX2_goOverWay 3 = .ok (.iconst 5, 1) := by decide +kernel
theorem dX2_goOverWay_4 : decode cX2_goOverWay 4 = .ok (.if_icmp .ge 62, 3) := by decide +kernel
theorem dX2_goOverWay_7 : decode cX2_goOverWay 7 = .ok (.lconst 0, 1) := by decide +kernel
theorem dX2_goOverWay_8 : decode cX2_goOverWay 8 = .ok (.lstore 4, 2) := by decide +kernel
theorem dX2_goOverWay_10 : decode cX2_goOverWay 10 = .ok (.iconst 0, 1) := by decide +kernel
theorem dX2_goOverWay_11 : decode cX2_goOverWay 11 = .ok (.istore 6, 2) := by decide +kernel
theorem dX2_goOverWay_13 : decode cX2_goOverWay 13 = .ok (.iload 6, 2) := by decide +kernel
theorem dX2_goOverWay_15 : decode cX2_goOverWay 15 = .ok (.iconst 5, 1) := by decide +kernel
theorem dX2_goOverWay_16 : decode cX2_goOverWay 16 = .ok (.if_icmp .ge 31, 3) := by decide +kernel
theorem dX2_goOverWay_19 : decode cX2_goOverWay 19 = .ok (.lload 4, 2) := by decide +kernel
theorem dX2_goOverWay_21 : decode cX2_goOverWay 21 = .ok (.aload_n 0, 1) := by decide +kernel
theorem dX2_goOverWay_22 : decode cX2_goOverWay 22 = .ok (.getfield 9, 3) := by decide +kernel
theorem dX2_goOverWay_25 : decode cX2_goOverWay 25 = .ok (.iload 6, 2) := by decide +kernel
theorem dX2_goOverWay_27 : decode cX2_goOverWay 27 = .ok (.laload, 1) := by decide +kernel
theorem dX2_goOverWay_28 : decode cX2_goOverWay 28 = .ok (.aload_n 1, 1) := by decide +kernel
theorem dX2_goOverWay_29 : decode cX2_goOverWay 29 = .ok (.iload_n 2, 1) := by decide +kernel
theorem dX2_goOverWay_30 : decode cX2_goOverWay 30 = .ok (.iload 6, 2) := by decide +kernel
theorem dX2_goOverWay_32 : decode cX2_goOverWay 32 = .ok (.iload_n 3, 1) := by decide +kernel
theorem dX2_goOverWay_33 : decode cX2_goOverWay 33 = .ok (.invokevirtual 34, 3) := by decide +kernel
theorem dX2_goOverWay_36 : decode cX2_goOverWay 36 = .ok (.i2l, 1) := by decide +kernel
theorem dX2_goOverWay_37 : decode cX2_goOverWay 37 = .ok (.lmul, 1) := by decide +kernel
theorem dX2_goOverWay_38 : decode cX2_goOverWay 38 = .ok (.ladd, 1) := by decide +kernel
theorem dX2_goOverWay_39 : decode cX2_goOverWay 39 = .ok (.lstore 4, 2) := by decide +kernel
theorem dX2_goOverWay_41 : decode cX2_goOverWay 41 = .ok (.iinc 6 1, 3) := by decide +kernel
theorem dX2_goOverWay_44 : decode cX2_goOverWay 44 = .ok (.goto (-31), 3) := by decide +kernel
theorem dX2_goOverWay_47 : decode cX2_goOverWay 47 = .ok (.aload_n 0, 1) := by decide +kernel
theorem dX2_goOverWay_48 : decode cX2_goOverWay 48 = .ok (.getfield 15, 3) := by decide +kernel
theorem dX2_goOverWay_51 : decode cX2_goOverWay 51 = .ok (.aload_n 1, 1) := by decide +kernel
theorem dX2_goOverWay_52 : decode cX2_goOverWay 52 = .ok (.iload_n 2, 1) := by decide +kernel
theorem dX2_goOverWay_53 : decode cX2_goOverWay 53 = .ok (.iload_n 3, 1) := by decide +kernel
theorem dX2_goOverWay_54 : decode cX2_goOverWay 54 = .ok (.invokevirtual 22, 3) := by decide +kernel
theorem dX2_goOverWay_57 : decode cX2_goOverWay 57 = .ok (.lload 4, 2) := by decide +kernel
theorem dX2_goOverWay_59 : decode cX2_goOverWay 59 = .ok (.lastore, 1) := by decide +kernel
theorem dX2_goOverWay_60 : decode cX2_goOverWay 60 = .ok (.iinc 3 1, 3) := by decide +kernel
theorem dX2_goOverWay_63 : decode cX2_goOverWay 63 = .ok (.goto (-61), 3) := by decide +kernel
theorem dX2_goOverWay_66 : decode cX2_goOverWay 66 = .ok (.aload_n 0, 1) := by decide +kernel
theorem dX2_goOverWay_67 : decode cX2_goOverWay 67 = .ok (.getfield 15, 3) := by decide +kernel
theorem dX2_goOverWay_70 : decode cX2_goOverWay 70 = .ok (.iconst 0, 1) := by decide +kernel
theorem dX2_goOverWay_71 : decode cX2_goOverWay 71 = .ok (.aload_n 0, 1) := by decide +kernel
theorem dX2_goOverWay_72 : decode cX2_goOverWay 72 = .ok (.getfield 9, 3) := by decide +kernel
theorem dX2_goOverWay_75 : decode cX2_goOverWay 75 = .ok (.iconst 0, 1) := by decide +kernel
theorem dX2_goOverWay_76 : decode cX2_goOverWay 76 = .ok (.iconst 5, 1) := by decide +kernel
theorem dX2_goOverWay_77 : decode cX2_goOverWay 77 = .ok (.invokestatic 38, 3) := by decide +kernel
theorem dX2_goOverWay_80 : decode cX2_goOverWay 80 = .ok (.return_, 1) := by decide +kernel
set_option maxRecDepth 20000 in
theorem ggX3_init_X1_init : GoodIn wsX3_init wsX1_init := goodIn_r _ [14, 15, 2, 3, 16, 17, 18, 19, 20, 21, 22, 23, 24] (by decide +kernel) (by decide +kernel)
set_option maxRecDepth 20000 in
theorem gX3_init_X1_init : GoodIn wsX3_init (wsX1_init) := ggX3_init_X1_init
theorem dX3_init_0 : decode cX3_init 0 = .ok (.aload_n 0, 1) := by decide +kernel
theorem dX3_init_1 : decode cX3_init 1 = .ok (.invokespecial 3, 3) := by decide +kernel
theorem dX3_init_4 : decode cX3_init 4 = .ok (.aload_n 0, 1) := by decide +kernel
theorem dX3_init_5 : decode cX3_init 5 = .ok (.new 9, 3) := by decide +kernel
theorem dX3_init_8 : decode cX3_init 8 = .ok (.dup, 1) := by decide +kernel
theorem dX3_init_9 : decode cX3_init 9 = .ok (.invokespecial 11, 3) := by decide +kernel
theorem dX3_init_12 : decode cX3_init 12 = .ok (.putfield 12, 3) := by decide +kernel
theorem dX3_init_15 : decode cX3_init 15 = .ok (.aload_n 0, 1) := by decide +kernel
theorem dX3_init_16 : decode cX3_init 16 = .ok (.iconst 0, 1) := by decide +kernel
theorem dX3_init_17 : decode cX3_init 17 = .ok (.putfield 18, 3) := by decide +kernel
theorem dX3_init_20 : decode cX3_init 20 = .ok (.aload_n 0, 1) := by decide +kernel
theorem dX3_init_21 : decode cX3_init 21 = .ok (.iconst 0, 1) := by decide +kernel
theorem dX3_init_22 : decode cX3_init 22 = .ok (.putfield 22, 3) := by decide +kernel
theorem dX3_init_25 : decode cX3_init 25 = .ok (.aload_n 0, 1) := by decide +kernel
theorem dX3_init_26 : decode cX3_init 26 = .ok (.iconst 0, 1) := by decide +kernel
theorem dX3_init_27 : decode cX3_init 27 = .ok (.putfield 25, 3) := by decide +kernel
theorem dX3_init_30 : decode cX3_init 30 = .ok (.aload_n 0, 1) := by decide +kernel
theorem dX3_init_31 : decode cX3_init 31 = .ok (.iconst 0, 1) := by decide +kernel
theorem dX3_init_32 : decode cX3_init 32 = .ok (.putfield 28, 3) := by decide +kernel
theorem dX3_init_35 : decode cX3_init 35 = .ok (.return_, 1) := by decide +kernel
set_option maxRecDepth 20000 in
theorem ggX3_firstFault_X1_clear : GoodIn wsX3_firstFault wsX1_clear := goodIn_r _ [9, 10, 11, 12, 94, 95, 96, 97] (by decide +kernel) (by decide +kernel)
set_option maxRecDepth 20000 in
theorem gX3_firstFault_X1_clear : GoodIn wsX3_firstFault (wsV RX3 31 RX1 yX1_clear wsX1_clear) := goodIn_app (goodIn_of _ (by decide +kernel)) ggX3_firstFault_X1_clear
set_option maxRecDepth 20000 in
theorem ggX3_firstFault_X3_takes : GoodIn wsX3_firstFault wsX3_takes := goodIn_r _ [17, 2, 18, 19, 20, 16, 21, 1, 22, 23, 24, 25, 26, 27, 28, 29, 30, 31, 32, 33, 8, 34, 11, 35, 36, 37, 38, 39, 40, 41, 42, 43, 44, 45, 46, 47, 48, 49, 50, 51, 52, 53, 54, 55, 56, 57, 58, 59, 60, 61, 62, 63, 64, 10, 65, 66, 67, 68, 69, 70, 71, 72, 73, 74, 75, 76, 77, 78, 79, 80, 81, 82, 83, 84, 85, 86, 12, 87, 88, 89, 90, 91, 94, 95, 96, 97] (by decide +kernel) (by decide +kernel)
set_option maxRecDepth 20000 in
theorem gX3_firstFault_X3_takes : GoodIn wsX3_firstFault (wsV RX3 43 RX3 yX3_takes wsX3_takes) := goodIn_app (goodIn_of _ (by decide +kernel)) ggX3_firstFault_X3_takes
theorem dX3_firstFault_0 : decode cX3_firstFault 0 = .ok (.aload_n 0, 1) := by decide +kernel
theorem dX3_firstFault_1 : decode cX3_firstFault 1 = .ok (.getfield 12, 3) := by decide +kernel
theorem dX3_firstFault_4 : decode cX3_firstFault 4 = .ok (.invokevirtual 31, 3) := by decide +kernel
theorem dX3_firstFault_7 : decode cX3_firstFault 7 = .ok (.aload_n 0, 1) := by decide +kernel
theorem dX3_firstFault_8 : decode cX3_firstFault 8 = .ok (.iconst 0, 1) := by decide +kernel
theorem dX3_firstFault_9 : decode cX3_firstFault 9 = .ok (.putfield 18, 3) := by decide +kernel
theorem dX3_firstFault_12 : decode cX3_firstFault 12 = .ok (.iconst 0, 1) := by decide +kernel
theorem dX3_firstFault_13 : decode cX3_firstFault 13 = .ok (.istore_n 2, 1) := by decide +kernel
theorem dX3_firstFault_14 : decode cX3_firstFault 14 = .ok (.iload_n 2, 1) := by decide +kernel
theorem dX3_firstFault_15 : decode cX3_firstFault 15 = .ok (.aload_n 1, 1) := by decide +kernel
theorem dX3_firstFault_16 : decode cX3_firstFault 16 = .ok (.getfield 34, 3) := by decide +kernel
theorem dX3_firstFault_19 : decode cX3_firstFault 19 = .ok (.if_icmp .ge 24, 3) := by decide +kernel
theorem dX3_firstFault_22 : decode cX3_firstFault 22 = .ok (.aload_n 0, 1) := by decide +kernel
theorem dX3_firstFault_23 : decode cX3_firstFault 23 = .ok (.aload_n 1, 1) := by decide +kernel
theorem dX3_firstFault_24 : decode cX3_firstFault 24 = .ok (.getfield 39, 3) := by decide +kernel
theorem dX3_firstFault_27 : decode cX3_firstFault 27 = .ok (.iload_n 2, 1) := by decide +kernel
theorem dX3_firstFault_28 : decode cX3_firstFault 28 = .ok (.iaload, 1) := by decide +kernel
theorem dX3_firstFault_29 : decode cX3_firstFault 29 = .ok (.invokevirtual 43, 3) := by decide +kernel
theorem dX3_firstFault_32 : decode cX3_firstFault 32 = .ok (.ifCond .ne 5, 3) := by decide +kernel
theorem dX3_firstFault_35 : decode cX3_firstFault 35 = .ok (.iload_n 2, 1) := by decide +kernel
theorem dX3_firstFault_36 : decode cX3_firstFault 36 = .ok (.ireturn, 1) := by decide +kernel
theorem dX3_firstFault_37 : decode cX3_firstFault 37 = .ok (.iinc 2 1, 3) := by decide +kernel
theorem dX3_firstFault_40 : decode cX3_firstFault 40 = .ok (.goto (-26), 3) := by decide +kernel
theorem dX3_firstFault_43 : decode cX3_firstFault 43 = .ok (.aload_n 0, 1) := by decide +kernel
theorem dX3_firstFault_44 : decode cX3_firstFault 44 = .ok (.getfield 18, 3) := by decide +kernel
theorem dX3_firstFault_47 : decode cX3_firstFault 47 = .ok (.iconst 1, 1) := by decide +kernel
theorem dX3_firstFault_48 : decode cX3_firstFault 48 = .ok (.if_icmp .ne 8, 3) := by decide +kernel
theorem dX3_firstFault_51 : decode cX3_firstFault 51 = .ok (.bipush (-9), 2) := by decide +kernel
theorem dX3_firstFault_53 : decode cX3_firstFault 53 = .ok (.goto 7, 3) := by decide +kernel
theorem dX3_firstFault_56 : decode cX3_firstFault 56 = .ok (.aload_n 1, 1) := by decide +kernel
theorem dX3_firstFault_57 : decode cX3_firstFault 57 = .ok (.getfield 34, 3) := by decide +kernel
theorem dX3_firstFault_60 : decode cX3_firstFault 60 = .ok (.ireturn, 1) := by decide +kernel
set_option maxRecDepth 20000 in
theorem ggX3_takes_X3_takesPart : GoodIn wsX3_takes wsX3_takesPart := goodIn_r _ [6, 1, 7, 8, 9, 77, 78, 79, 80, 81, 82, 83, 84, 85] (by decide +kernel) (by decide +kernel)
set_option maxRecDepth 20000 in
theorem gX3_takes_X3_takesPart : GoodIn wsX3_takes (wsV RX3 47 RX3 yX3_takesPart wsX3_takesPart) := goodIn_app (goodIn_of _ (by decide +kernel)) ggX3_takes_X3_takesPart
set_option maxRecDepth 20000 in
theorem ggX3_takes_X3_takesKind : GoodIn wsX3_takes wsX3_takesKind := goodIn_r _ [13, 7, 1, 14, 15, 5, 16, 17, 18, 19, 20, 21, 22, 23, 77, 78, 79, 80, 81, 82, 83, 84, 85] (by decide +kernel) (by decide +kernel)
set_option maxRecDepth 20000 in
theorem gX3_takes_X3_takesKind : GoodIn wsX3_takes (wsV RX3 50 RX3 yX3_takesKind wsX3_takesKind) := goodIn_app (goodIn_of _ (by decide +kernel)) ggX3_takes_X3_takesKind
set_option maxRecDepth 20000 in
theorem ggX3_takes_X3_takesWay : GoodIn wsX3_takes wsX3_takesWay := goodIn_r _ [27, 28, 1, 7, 29, 30, 31, 20, 32, 22, 77, 78, 79, 80, 81, 82, 83, 84, 85] (by decide +kernel) (by decide +kernel)
set_option maxRecDepth 20000 in
theorem gX3_takes_X3_takesWay : GoodIn wsX3_takes (wsV RX3 53 RX3 yX3_takesWay wsX3_takesWay) := goodIn_app (goodIn_of _ (by decide +kernel)) ggX3_takes_X3_takesWay
set_option maxRecDepth 20000 in
theorem ggX3_takes_X3_takesTold : GoodIn wsX3_takes wsX3_takesTold := goodIn_r _ [36, 37, 1, 7, 28, 38, 39, 40, 41, 42, 43, 20, 44, 45, 46, 47, 48, 49, 50, 51, 52, 53, 54, 55, 56, 57, 58, 59, 60, 77, 78, 79, 80, 81, 82, 83, 84, 85] (by decide +kernel) (by decide +kernel)
set_option maxRecDepth 20000 in
theorem gX3_takes_X3_takesTold : GoodIn wsX3_takes (wsV RX3 56 RX3 yX3_takesTold wsX3_takesTold) := goodIn_app (goodIn_of _ (by decide +kernel)) ggX3_takes_X3_takesTold
set_option maxRecDepth 20000 in
theorem ggX3_takes_X3_takesHeard : GoodIn wsX3_takes wsX3_takesHeard := goodIn_r _ [64, 65, 1, 7, 28, 37, 38, 39, 40, 66, 58, 59, 20, 60, 49, 50, 51, 52, 53, 54, 55, 56, 77, 78, 79, 80, 81, 82, 83, 84, 85] (by decide +kernel) (by decide +kernel)
set_option maxRecDepth 20000 in
theorem gX3_takes_X3_takesHeard : GoodIn wsX3_takes (wsV RX3 59 RX3 yX3_takesHeard wsX3_takesHeard) := goodIn_app (goodIn_of _ (by decide +kernel)) ggX3_takes_X3_takesHeard
set_option maxRecDepth 20000 in
theorem ggX3_takes_X3_takesTenths : GoodIn wsX3_takes wsX3_takesTenths := goodIn_r _ [70, 7, 28, 37, 65, 1, 71, 46, 47, 20, 48, 49, 50, 51, 52, 53, 54, 55, 56, 72, 73, 74, 75, 76, 77, 78, 79, 80, 81, 82, 83, 84, 85] (by decide +kernel) (by decide +kernel)
set_option maxRecDepth 20000 in
theorem gX3_takes_X3_takesTenths : GoodIn wsX3_takes (wsV RX3 62 RX3 yX3_takesTenths wsX3_takesTenths) := goodIn_app (goodIn_of _ (by decide +kernel)) ggX3_takes_X3_takesTenths
theorem dX3_takes_0 : decode cX3_takes 0 = .ok (.aload_n 0, 1) := by decide +kernel
theorem dX3_takes_1 : decode cX3_takes 1 = .ok (.getfield 18, 3) := by decide +kernel
theorem dX3_takes_4 : decode cX3_takes 4 = .ok (.tableswitch 96 0 5 #[40, 57, 63, 69, 78, 87], 40) := by decide +kernel
theorem dX3_takes_44 : decode cX3_takes 44 = .ok (.aload_n 0, 1) := by decide +kernel
theorem dX3_takes_45 : decode cX3_takes 45 = .ok (.iconst 1, 1) := by decide +kernel
theorem dX3_takes_46 : decode cX3_takes 46 = .ok (.putfield 18, 3) := by decide +kernel
theorem dX3_takes_49 : decode cX3_takes 49 = .ok (.iload_n 1, 1) := by decide +kernel
theorem dX3_takes_50 : decode cX3_takes 50 = .ok (.bipush 72, 2) := by decide +kernel
theorem dX3_takes_52 : decode cX3_takes 52 = .ok (.if_icmp .ne 7, 3) := by decide +kernel
theorem dX3_takes_55 : decode cX3_takes 55 = .ok (.iconst 1, 1) := by decide +kernel
theorem dX3_takes_56 : decode cX3_takes 56 = .ok (.goto 4, 3) := by decide +kernel
theorem dX3_takes_59 : decode cX3_takes 59 = .ok (.iconst 0, 1) := by decide +kernel
theorem dX3_takes_60 : decode cX3_takes 60 = .ok (.ireturn, 1) := by decide +kernel
theorem dX3_takes_61 : decode cX3_takes 61 = .ok (.aload_n 0, 1) := by decide +kernel
theorem dX3_takes_62 : decode cX3_takes 62 = .ok (.iload_n 1, 1) := by decide +kernel
theorem dX3_takes_63 : decode cX3_takes 63 = .ok (.invokevirtual 47, 3) := by decide +kernel
theorem dX3_takes_66 : decode cX3_takes 66 = .ok (.ireturn, 1) := by decide +kernel
theorem dX3_takes_67 : decode cX3_takes 67 = .ok (.aload_n 0, 1) := by decide +kernel
theorem dX3_takes_68 : decode cX3_takes 68 = .ok (.iload_n 1, 1) := by decide +kernel
theorem dX3_takes_69 : decode cX3_takes 69 = .ok (.invokevirtual 50, 3) := by decide +kernel
theorem dX3_takes_72 : decode cX3_takes 72 = .ok (.ireturn, 1) := by decide +kernel
theorem dX3_takes_73 : decode cX3_takes 73 = .ok (.aload_n 0, 1) := by decide +kernel
theorem dX3_takes_74 : decode cX3_takes 74 = .ok (.iload_n 1, 1) := by decide +kernel
theorem dX3_takes_75 : decode cX3_takes 75 = .ok (.bipush 48, 2) := by decide +kernel
theorem dX3_takes_77 : decode cX3_takes 77 = .ok (.isub, 1) := by decide +kernel
theorem dX3_takes_78 : decode cX3_takes 78 = .ok (.invokevirtual 53, 3) := by decide +kernel
theorem dX3_takes_81 : decode cX3_takes 81 = .ok (.ireturn, 1) := by decide +kernel
theorem dX3_takes_82 : decode cX3_takes 82 = .ok (.aload_n 0, 1) := by decide +kernel
theorem dX3_takes_83 : decode cX3_takes 83 = .ok (.iload_n 1, 1) := by decide +kernel
theorem dX3_takes_84 : decode cX3_takes 84 = .ok (.bipush 48, 2) := by decide +kernel
theorem dX3_takes_86 : decode cX3_takes 86 = .ok (.isub, 1) := by decide +kernel
theorem dX3_takes_87 : decode cX3_takes 87 = .ok (.invokevirtual 56, 3) := by decide +kernel
theorem dX3_takes_90 : decode cX3_takes 90 = .ok (.ireturn, 1) := by decide +kernel
theorem dX3_takes_91 : decode cX3_takes 91 = .ok (.aload_n 0, 1) := by decide +kernel
theorem dX3_takes_92 : decode cX3_takes 92 = .ok (.iload_n 1, 1) := by decide +kernel
theorem dX3_takes_93 : decode cX3_takes 93 = .ok (.bipush 48, 2) := by decide +kernel
theorem dX3_takes_95 : decode cX3_takes 95 = .ok (.isub, 1) := by decide +kernel
theorem dX3_takes_96 : decode cX3_takes 96 = .ok (.invokevirtual 59, 3) := by decide +kernel
theorem dX3_takes_99 : decode cX3_takes 99 = .ok (.ireturn, 1) := by decide +kernel
theorem dX3_takes_100 : decode cX3_takes 100 = .ok (.aload_n 0, 1) := by decide +kernel
theorem dX3_takes_101 : decode cX3_takes 101 = .ok (.iload_n 1, 1) := by decide +kernel
theorem dX3_takes_102 : decode cX3_takes 102 = .ok (.bipush 48, 2) := by decide +kernel
theorem dX3_takes_104 : decode cX3_takes 104 = .ok (.isub, 1) := by decide +kernel
theorem dX3_takes_105 : decode cX3_takes 105 = .ok (.invokevirtual 62, 3) := by decide +kernel
theorem dX3_takes_108 : decode cX3_takes 108 = .ok (.ireturn, 1) := by decide +kernel
theorem dX3_takesPart_0 : decode cX3_takesPart 0 = .ok (.iload_n 1, 1) := by decide +kernel
theorem dX3_takesPart_1 : decode cX3_takesPart 1 = .ok (.bipush 82, 2) := by decide +kernel
theorem dX3_takesPart_3 : decode cX3_takesPart 3 = .ok (.if_icmp .ne 26, 3) := by decide +kernel
theorem dX3_takesPart_6 : decode cX3_takesPart 6 = .ok (.aload_n 0, 1) := by decide +kernel
theorem dX3_takesPart_7 : decode cX3_takesPart 7 = .ok (.iconst 2, 1) := by decide +kernel
theorem dX3_takesPart_8 : decode cX3_takesPart 8 = .ok (.putfield 18, 3) := by decide +kernel
theorem dX3_takesPart_11 : decode cX3_takesPart 11 = .ok (.aload_n 0, 1) := by decide +kernel
theorem dX3_takesPart_12 : decode cX3_takesPart 12 = .ok (.getfield 12, 3) := by decide +kernel
theorem dX3_takesPart_15 : decode cX3_takesPart 15 = .ok (.getfield 65, 3) := by decide +kernel
theorem dX3_takesPart_18 : decode cX3_takesPart 18 = .ok (.bipush 7, 2) := by decide +kernel
theorem dX3_takesPart_20 : decode cX3_takesPart 20 = .ok (.if_icmp .ge 7, 3) := by decide +kernel
theorem dX3_takesPart_23 : decode cX3_takesPart 23 = .ok (.iconst 1, 1) := by decide +kernel
theorem dX3_takesPart_24 : decode cX3_takesPart 24 = .ok (.goto 4, 3) := by decide +kernel
theorem dX3_takesPart_27 : decode cX3_takesPart 27 = .ok (.iconst 0, 1) := by decide +kernel
theorem dX3_takesPart_28 : decode cX3_takesPart 28 = .ok (.ireturn, 1) := by decide +kernel
theorem dX3_takesPart_29 : decode cX3_takesPart 29 = .ok (.aload_n 0, 1) := by decide +kernel
theorem dX3_takesPart_30 : decode cX3_takesPart 30 = .ok (.iconst 3, 1) := by decide +kernel
theorem dX3_takesPart_31 : decode cX3_takesPart 31 = .ok (.putfield 18, 3) := by decide +kernel
theorem dX3_takesPart_34 : decode cX3_takesPart 34 = .ok (.iload_n 1, 1) := by decide +kernel
theorem dX3_takesPart_35 : decode cX3_takesPart 35 = .ok (.bipush 83, 2) := by decide +kernel
theorem dX3_takesPart_37 : decode cX3_takesPart 37 = .ok (.if_icmp .ne 30, 3) := by decide +kernel
theorem dX3_takesPart_40 : decode cX3_takesPart 40 = .ok (.aload_n 0, 1) := by decide +kernel
theorem dX3_takesPart_41 : decode cX3_takesPart 41 = .ok (.getfield 12, 3) := by decide +kernel
theorem dX3_takesPart_44 : decode cX3_takesPart 44 = .ok (.getfield 65, 3) := by decide +kernel
theorem dX3_takesPart_47 : decode cX3_takesPart 47 = .ok (.iconst 1, 1) := by decide +kernel
theorem dX3_takesPart_48 : decode cX3_takesPart 48 = .ok (.if_icmp .le 19, 3) := by decide +kernel
theorem dX3_takesPart_51 : decode cX3_takesPart 51 = .ok (.aload_n 0, 1) := by decide +kernel
theorem dX3_takesPart_52 : decode cX3_takesPart 52 = .ok (.getfield 12, 3) := by decide +kernel
theorem dX3_takesPart_55 : decode cX3_takesPart 55 = .ok (.getfield 68, 3) := by decide +kernel
theorem dX3_takesPart_58 : decode cX3_takesPart 58 = .ok (.bipush 9, 2) := by decide +kernel
theorem dX3_takesPart_60 : decode cX3_takesPart 60 = .ok (.if_icmp .ge 7, 3) := by decide +kernel
theorem dX3_takesPart_63 : decode cX3_takesPart 63 = .ok (.iconst 1, 1) := by decide +kernel
theorem dX3_takesPart_64 : decode cX3_takesPart 64 = .ok (.goto 4, 3) := by decide +kernel
theorem dX3_takesPart_67 : decode cX3_takesPart 67 = .ok (.iconst 0, 1) := by decide +kernel
theorem dX3_takesPart_68 : decode cX3_takesPart 68 = .ok (.ireturn, 1) := by decide +kernel
set_option maxRecDepth 20000 in
theorem ggX3_takesKind_X3_kindOf : GoodIn wsX3_takesKind wsX3_kindOf := goodIn_r _ [6] (by decide +kernel) (by decide +kernel)
set_option maxRecDepth 20000 in
theorem gX3_takesKind_X3_kindOf : GoodIn wsX3_takesKind (va_wsS RX3 71 yX3_kindOf wsX3_kindOf) := goodIn_app (goodIn_of _ (by decide +kernel)) ggX3_takesKind_X3_kindOf
set_option maxRecDepth 20000 in
theorem ggX3_takesKind_X1_addRank : GoodIn wsX3_takesKind wsX1_addRank := goodIn_r _ [11, 12, 13, 19, 20, 21, 22] (by decide +kernel) (by decide +kernel)
set_option maxRecDepth 20000 in
theorem gX3_takesKind_X1_addRank : GoodIn wsX3_takesKind (wsV RX3 75 RX1 yX1_addRank wsX1_addRank) := goodIn_app (goodIn_of _ (by decide +kernel)) ggX3_takesKind_X1_addRank
theorem dX3_takesKind_0 : decode cX3_takesKind 0 = .ok (.iload_n 1, 1) := by decide +kernel
theorem dX3_takesKind_1 : decode cX3_takesKind 1 = .ok (.invokestatic 71, 3) := by decide +kernel
theorem dX3_takesKind_4 : decode cX3_takesKind 4 = .ok (.istore_n 2, 1) := by decide +kernel
theorem dX3_takesKind_5 : decode cX3_takesKind 5 = .ok (.iload_n 2, 1) := by decide +kernel
theorem dX3_takesKind_6 : decode cX3_takesKind 6 = .ok (.bipush (-9), 2) := by decide +kernel
theorem dX3_takesKind_8 : decode cX3_takesKind 8 = .ok (.if_icmp .ne 5, 3) := by decide +kernel
theorem dX3_takesKind_11 : decode cX3_takesKind 11 = .ok (.iconst 0, 1) := by decide +kernel
theorem dX3_takesKind_12 : decode cX3_takesKind 12 = .ok (.ireturn, 1) := by decide +kernel
theorem dX3_takesKind_13 : decode cX3_takesKind 13 = .ok (.aload_n 0, 1) := by decide +kernel
theorem dX3_takesKind_14 : decode cX3_takesKind 14 = .ok (.getfield 12, 3) := by decide +kernel
theorem dX3_takesKind_17 : decode cX3_takesKind 17 = .ok (.iload_n 2, 1) := by decide +kernel
theorem dX3_takesKind_18 : decode cX3_takesKind 18 = .ok (.invokevirtual 75, 3) := by decide +kernel
theorem dX3_takesKind_21 : decode cX3_takesKind 21 = .ok (.aload_n 0, 1) := by decide +kernel
theorem dX3_takesKind_22 : decode cX3_takesKind 22 = .ok (.iconst 1, 1) := by decide +kernel
theorem dX3_takesKind_23 : decode cX3_takesKind 23 = .ok (.putfield 18, 3) := by decide +kernel
theorem dX3_takesKind_26 : decode cX3_takesKind 26 = .ok (.iconst 1, 1) := by decide +kernel
theorem dX3_takesKind_27 : decode cX3_takesKind 27 = .ok (.ireturn, 1) := by decide +kernel
set_option maxRecDepth 20000 in
theorem ggX3_takesWay_X1_has : GoodIn wsX3_takesWay wsX1_has := goodIn_r _ [8, 9, 15, 16, 17, 18] (by decide +kernel) (by decide +kernel)
set_option maxRecDepth 20000 in
theorem gX3_takesWay_X1_has : GoodIn wsX3_takesWay (wsV RX3 79 RX1 yX1_has wsX1_has) := goodIn_app (goodIn_of _ (by decide +kernel)) ggX3_takesWay_X1_has
theorem dX3_takesWay_0 : decode cX3_takesWay 0 = .ok (.aload_n 0, 1) := by decide +kernel
theorem dX3_takesWay_1 : decode cX3_takesWay 1 = .ok (.iload_n 1, 1) := by decide +kernel
theorem dX3_takesWay_2 : decode cX3_takesWay 2 = .ok (.putfield 22, 3) := by decide +kernel
theorem dX3_takesWay_5 : decode cX3_takesWay 5 = .ok (.aload_n 0, 1) := by decide +kernel
theorem dX3_takesWay_6 : decode cX3_takesWay 6 = .ok (.iconst 4, 1) := by decide +kernel
theorem dX3_takesWay_7 : decode cX3_takesWay 7 = .ok (.putfield 18, 3) := by decide +kernel
theorem dX3_takesWay_10 : decode cX3_takesWay 10 = .ok (.iload_n 1, 1) := by decide +kernel
theorem dX3_takesWay_11 : decode cX3_takesWay 11 = .ok (.ifCond .le 18, 3) := by decide +kernel
theorem dX3_takesWay_14 : decode cX3_takesWay 14 = .ok (.aload_n 0, 1) := by decide +kernel
theorem dX3_takesWay_15 : decode cX3_takesWay 15 = .ok (.getfield 12, 3) := by decide +kernel
theorem dX3_takesWay_18 : decode cX3_takesWay 18 = .ok (.iload_n 1, 1) := by decide +kernel
theorem dX3_takesWay_19 : decode cX3_takesWay 19 = .ok (.invokevirtual 79, 3) := by decide +kernel
theorem dX3_takesWay_22 : decode cX3_takesWay 22 = .ok (.ifCond .eq 7, 3) := by decide +kernel
theorem dX3_takesWay_25 : decode cX3_takesWay 25 = .ok (.iconst 1, 1) := by decide +kernel
theorem dX3_takesWay_26 : decode cX3_takesWay 26 = .ok (.goto 4, 3) := by decide +kernel
theorem dX3_takesWay_29 : decode cX3_takesWay 29 = .ok (.iconst 0, 1) := by decide +kernel
theorem dX3_takesWay_30 : decode cX3_takesWay 30 = .ok (.ireturn, 1) := by decide +kernel
set_option maxRecDepth 20000 in
theorem ggX3_takesTold_X9_isOrder : GoodIn wsX3_takesTold wsX9_isOrder := goodIn_r _ [7] (by decide +kernel) (by decide +kernel)
set_option maxRecDepth 20000 in
theorem gX3_takesTold_X9_isOrder_n82 : GoodIn wsX3_takesTold (wsX9_isOrder) := ggX3_takesTold_X9_isOrder
set_option maxRecDepth 20000 in
theorem ggX3_takesTold_X1_canSlip : GoodIn wsX3_takesTold wsX1_canSlip := goodIn_r _ [12, 13, 14, 15, 11, 16, 17, 18, 19, 20, 21, 22, 23, 24, 25, 26, 27, 28, 34, 35, 36, 37] (by decide +kernel) (by decide +kernel)
set_option maxRecDepth 20000 in
theorem gX3_takesTold_X1_canSlip : GoodIn wsX3_takesTold (wsV RX3 85 RX1 yX1_canSlip wsX1_canSlip) := goodIn_app (goodIn_of _ (by decide +kernel)) ggX3_takesTold_X1_canSlip
theorem dX3_takesTold_0 : decode cX3_takesTold 0 = .ok (.aload_n 0, 1) := by decide +kernel
theorem dX3_takesTold_1 : decode cX3_takesTold 1 = .ok (.iload_n 1, 1) := by decide +kernel
theorem dX3_takesTold_2 : decode cX3_takesTold 2 = .ok (.putfield 25, 3) := by decide +kernel
theorem dX3_takesTold_5 : decode cX3_takesTold 5 = .ok (.aload_n 0, 1) := by decide +kernel
theorem dX3_takesTold_6 : decode cX3_takesTold 6 = .ok (.iconst 5, 1) := by decide +kernel
theorem dX3_takesTold_7 : decode cX3_takesTold 7 = .ok (.putfield 18, 3) := by decide +kernel
theorem dX3_takesTold_10 : decode cX3_takesTold 10 = .ok (.iload_n 1, 1) := by decide +kernel
theorem dX3_takesTold_11 : decode cX3_takesTold 11 = .ok (.invokestatic 82, 3) := by decide +kernel
theorem dX3_takesTold_14 : decode cX3_takesTold 14 = .ok (.ifCond .eq 22, 3) := by decide +kernel
theorem dX3_takesTold_17 : decode cX3_takesTold 17 = .ok (.aload_n 0, 1) := by decide +kernel
theorem dX3_takesTold_18 : decode cX3_takesTold 18 = .ok (.getfield 12, 3) := by decide +kernel
theorem dX3_takesTold_21 : decode cX3_takesTold 21 = .ok (.aload_n 0, 1) := by decide +kernel
theorem dX3_takesTold_22 : decode cX3_takesTold 22 = .ok (.getfield 22, 3) := by decide +kernel
theorem dX3_takesTold_25 : decode cX3_takesTold 25 = .ok (.iload_n 1, 1) := by decide +kernel
theorem dX3_takesTold_26 : decode cX3_takesTold 26 = .ok (.invokevirtual 85, 3) := by decide +kernel
theorem dX3_takesTold_29 : decode cX3_takesTold 29 = .ok (.ifCond .eq 7, 3) := by decide +kernel
theorem dX3_takesTold_32 : decode cX3_takesTold 32 = .ok (.iconst 1, 1) := by decide +kernel
theorem dX3_takesTold_33 : decode cX3_takesTold 33 = .ok (.goto 4, 3) := by decide +kernel
theorem dX3_takesTold_36 : decode cX3_takesTold 36 = .ok (.iconst 0, 1) := by decide +kernel
theorem dX3_takesTold_37 : decode cX3_takesTold 37 = .ok (.ireturn, 1) := by decide +kernel
set_option maxRecDepth 20000 in
theorem ggX3_takesHeard_X9_isOrder : GoodIn wsX3_takesHeard wsX9_isOrder := goodIn_r _ [8] (by decide +kernel) (by decide +kernel)
set_option maxRecDepth 20000 in
theorem gX3_takesHeard_X9_isOrder_n82 : GoodIn wsX3_takesHeard (wsX9_isOrder) := ggX3_takesHeard_X9_isOrder
set_option maxRecDepth 20000 in
theorem ggX3_takesHeard_X1_canSlipTo : GoodIn wsX3_takesHeard wsX1_canSlipTo := goodIn_r _ [13, 14, 15, 16, 12, 17, 18, 19, 20, 21, 27, 28, 29, 30] (by decide +kernel) (by decide +kernel)
set_option maxRecDepth 20000 in
theorem gX3_takesHeard_X1_canSlipTo : GoodIn wsX3_takesHeard (wsV RX3 89 RX1 yX1_canSlipTo wsX1_canSlipTo) := goodIn_app (goodIn_of _ (by decide +kernel)) ggX3_takesHeard_X1_canSlipTo
theorem dX3_takesHeard_0 : decode cX3_takesHeard 0 = .ok (.aload_n 0, 1) := by decide +kernel
theorem dX3_takesHeard_1 : decode cX3_takesHeard 1 = .ok (.iload_n 1, 1) := by decide +kernel
theorem dX3_takesHeard_2 : decode cX3_takesHeard 2 = .ok (.putfield 28, 3) := by decide +kernel
theorem dX3_takesHeard_5 : decode cX3_takesHeard 5 = .ok (.aload_n 0, 1) := by decide +kernel
theorem dX3_takesHeard_6 : decode cX3_takesHeard 6 = .ok (.bipush 6, 2) := by decide +kernel
theorem dX3_takesHeard_8 : decode cX3_takesHeard 8 = .ok (.putfield 18, 3) := by decide +kernel
theorem dX3_takesHeard_11 : decode cX3_takesHeard 11 = .ok (.iload_n 1, 1) := by decide +kernel
theorem dX3_takesHeard_12 : decode cX3_takesHeard 12 = .ok (.invokestatic 82, 3) := by decide +kernel
theorem dX3_takesHeard_15 : decode cX3_takesHeard 15 = .ok (.ifCond .eq 26, 3) := by decide +kernel
theorem dX3_takesHeard_18 : decode cX3_takesHeard 18 = .ok (.aload_n 0, 1) := by decide +kernel
theorem dX3_takesHeard_19 : decode cX3_takesHeard 19 = .ok (.getfield 12, 3) := by decide +kernel
theorem dX3_takesHeard_22 : decode cX3_takesHeard 22 = .ok (.aload_n 0, 1) := by decide +kernel
theorem dX3_takesHeard_23 : decode cX3_takesHeard 23 = .ok (.getfield 22, 3) := by decide +kernel
theorem dX3_takesHeard_26 : decode cX3_takesHeard 26 = .ok (.aload_n 0, 1) := by decide +kernel
theorem dX3_takesHeard_27 : decode cX3_takesHeard 27 = .ok (.getfield 25, 3) := by decide +kernel
theorem dX3_takesHeard_30 : decode cX3_takesHeard 30 = .ok (.iload_n 1, 1) := by decide +kernel
theorem dX3_takesHeard_31 : decode cX3_takesHeard 31 = .ok (.invokevirtual 89, 3) := by decide +kernel
theorem dX3_takesHeard_34 : decode cX3_takesHeard 34 = .ok (.ifCond .eq 7, 3) := by decide +kernel
theorem dX3_takesHeard_37 : decode cX3_takesHeard 37 = .ok (.iconst 1, 1) := by decide +kernel
theorem dX3_takesHeard_38 : decode cX3_takesHeard 38 = .ok (.goto 4, 3) := by decide +kernel
theorem dX3_takesHeard_41 : decode cX3_takesHeard 41 = .ok (.iconst 0, 1) := by decide +kernel
theorem dX3_takesHeard_42 : decode cX3_takesHeard 42 = .ok (.ireturn, 1) := by decide +kernel
set_option maxRecDepth 20000 in
theorem ggX3_takesTenths_X1_slipped : GoodIn wsX3_takesTenths wsX1_slipped := goodIn_r _ [10, 11, 12, 13, 9, 14, 15, 16, 17, 18, 29, 30, 31, 32] (by decide +kernel) (by decide +kernel)
set_option maxRecDepth 20000 in
theorem gX3_takesTenths_X1_slipped : GoodIn wsX3_takesTenths (wsV RX3 93 RX1 yX1_slipped wsX1_slipped) := goodIn_app (goodIn_of _ (by decide +kernel)) ggX3_takesTenths_X1_slipped
set_option maxRecDepth 20000 in
theorem ggX3_takesTenths_X1_addSlip : GoodIn wsX3_takesTenths wsX1_addSlip := goodIn_r _ [22, 15, 23, 16, 17, 9, 18, 29, 30, 31, 32] (by decide +kernel) (by decide +kernel)
set_option maxRecDepth 20000 in
theorem gX3_takesTenths_X1_addSlip : GoodIn wsX3_takesTenths (wsV RX3 97 RX1 yX1_addSlip wsX1_addSlip) := goodIn_app (goodIn_of _ (by decide +kernel)) ggX3_takesTenths_X1_addSlip
theorem dX3_takesTenths_0 : decode cX3_takesTenths 0 = .ok (.iload_n 1, 1) := by decide +kernel
theorem dX3_takesTenths_1 : decode cX3_takesTenths 1 = .ok (.iconst 1, 1) := by decide +kernel
theorem dX3_takesTenths_2 : decode cX3_takesTenths 2 = .ok (.if_icmp .lt 31, 3) := by decide +kernel
theorem dX3_takesTenths_5 : decode cX3_takesTenths 5 = .ok (.iload_n 1, 1) := by decide +kernel
theorem dX3_takesTenths_6 : decode cX3_takesTenths 6 = .ok (.bipush 9, 2) := by decide +kernel
theorem dX3_takesTenths_8 : decode cX3_takesTenths 8 = .ok (.if_icmp .gt 25, 3) := by decide +kernel
theorem dX3_takesTenths_11 : decode cX3_takesTenths 11 = .ok (.iload_n 1, 1) := by decide +kernel
theorem dX3_takesTenths_12 : decode cX3_takesTenths 12 = .ok (.bipush 10, 2) := by decide +kernel
theorem dX3_takesTenths_14 : decode cX3_takesTenths 14 = .ok (.aload_n 0, 1) := by decide +kernel
theorem dX3_takesTenths_15 : decode cX3_takesTenths 15 = .ok (.getfield 12, 3) := by decide +kernel
theorem dX3_takesTenths_18 : decode cX3_takesTenths 18 = .ok (.aload_n 0, 1) := by decide +kernel
theorem dX3_takesTenths_19 : decode cX3_takesTenths 19 = .ok (.getfield 22, 3) := by decide +kernel
theorem dX3_takesTenths_22 : decode cX3_takesTenths 22 = .ok (.aload_n 0, 1) := by decide +kernel
theorem dX3_takesTenths_23 : decode cX3_takesTenths 23 = .ok (.getfield 25, 3) := by decide +kernel
theorem dX3_takesTenths_26 : decode cX3_takesTenths 26 = .ok (.invokevirtual 93, 3) := by decide +kernel
theorem dX3_takesTenths_29 : decode cX3_takesTenths 29 = .ok (.isub, 1) := by decide +kernel
theorem dX3_takesTenths_30 : decode cX3_takesTenths 30 = .ok (.if_icmp .le 5, 3) := by decide +kernel
theorem dX3_takesTenths_33 : decode cX3_takesTenths 33 = .ok (.iconst 0, 1) := by decide +kernel
theorem dX3_takesTenths_34 : decode cX3_takesTenths 34 = .ok (.ireturn, 1) := by decide +kernel
theorem dX3_takesTenths_35 : decode cX3_takesTenths 35 = .ok (.aload_n 0, 1) := by decide +kernel
theorem dX3_takesTenths_36 : decode cX3_takesTenths 36 = .ok (.getfield 12, 3) := by decide +kernel
theorem dX3_takesTenths_39 : decode cX3_takesTenths 39 = .ok (.aload_n 0, 1) := by decide +kernel
theorem dX3_takesTenths_40 : decode cX3_takesTenths 40 = .ok (.getfield 22, 3) := by decide +kernel
theorem dX3_takesTenths_43 : decode cX3_takesTenths 43 = .ok (.aload_n 0, 1) := by decide +kernel
theorem dX3_takesTenths_44 : decode cX3_takesTenths 44 = .ok (.getfield 25, 3) := by decide +kernel
theorem dX3_takesTenths_47 : decode cX3_takesTenths 47 = .ok (.aload_n 0, 1) := by decide +kernel
theorem dX3_takesTenths_48 : decode cX3_takesTenths 48 = .ok (.getfield 28, 3) := by decide +kernel
theorem dX3_takesTenths_51 : decode cX3_takesTenths 51 = .ok (.iload_n 1, 1) := by decide +kernel
theorem dX3_takesTenths_52 : decode cX3_takesTenths 52 = .ok (.invokevirtual 97, 3) := by decide +kernel
theorem dX3_takesTenths_55 : decode cX3_takesTenths 55 = .ok (.aload_n 0, 1) := by decide +kernel
theorem dX3_takesTenths_56 : decode cX3_takesTenths 56 = .ok (.iconst 1, 1) := by decide +kernel
theorem dX3_takesTenths_57 : decode cX3_takesTenths 57 = .ok (.putfield 18, 3) := by decide +kernel
theorem dX3_takesTenths_60 : decode cX3_takesTenths 60 = .ok (.iconst 1, 1) := by decide +kernel
theorem dX3_takesTenths_61 : decode cX3_takesTenths 61 = .ok (.ireturn, 1) := by decide +kernel
theorem dX3_kindOf_0 : decode cX3_kindOf 0 = .ok (.iload_n 0, 1) := by decide +kernel
theorem dX3_kindOf_1 : decode cX3_kindOf 1 = .ok (.lookupswitch 51 #[(100, 45), (102, 47), (112, 43), (115, 49)], 43) := by decide +kernel
theorem dX3_kindOf_44 : decode cX3_kindOf 44 = .ok (.iconst 0, 1) := by decide +kernel
theorem dX3_kindOf_45 : decode cX3_kindOf 45 = .ok (.ireturn, 1) := by decide +kernel
theorem dX3_kindOf_46 : decode cX3_kindOf 46 = .ok (.iconst 1, 1) := by decide +kernel
theorem dX3_kindOf_47 : decode cX3_kindOf 47 = .ok (.ireturn, 1) := by decide +kernel
theorem dX3_kindOf_48 : decode cX3_kindOf 48 = .ok (.iconst 2, 1) := by decide +kernel
theorem dX3_kindOf_49 : decode cX3_kindOf 49 = .ok (.ireturn, 1) := by decide +kernel
theorem dX3_kindOf_50 : decode cX3_kindOf 50 = .ok (.iconst 3, 1) := by decide +kernel
theorem dX3_kindOf_51 : decode cX3_kindOf 51 = .ok (.ireturn, 1) := by decide +kernel
theorem dX3_kindOf_52 : decode cX3_kindOf 52 = .ok (.bipush (-9), 2) := by decide +kernel
theorem dX3_kindOf_54 : decode cX3_kindOf 54 = .ok (.ireturn, 1) := by decide +kernel
theorem dX4_init_0 : decode cX4_init 0 = .ok (.aload_n 0, 1) := by decide +kernel
theorem dX4_init_1 : decode cX4_init 1 = .ok (.invokespecial 3, 3) := by decide +kernel
theorem dX4_init_4 : decode cX4_init 4 = .ok (.aload_n 0, 1) := by decide +kernel
theorem dX4_init_5 : decode cX4_init 5 = .ok (.iconst 5, 1) := by decide +kernel
theorem dX4_init_6 : decode cX4_init 6 = .ok (.newarray .int, 2) := by decide +kernel
theorem dX4_init_8 : decode cX4_init 8 = .ok (.putfield 9, 3) := by decide +kernel
theorem dX4_init_11 : decode cX4_init 11 = .ok (.aload_n 0, 1) := by decide +kernel
theorem dX4_init_12 : decode cX4_init 12 = .ok (.iconst 5, 1) := by decide +kernel
theorem dX4_init_13 : decode cX4_init 13 = .ok (.newarray .int, 2) := by decide +kernel
theorem dX4_init_15 : decode cX4_init 15 = .ok (.putfield 15, 3) := by decide +kernel
theorem dX4_init_18 : decode cX4_init 18 = .ok (.return_, 1) := by decide +kernel
set_option maxRecDepth 20000 in
theorem ggX4_countFrom_X1_hears : GoodIn wsX4_countFrom wsX1_hears := goodIn_r _ [7, 8, 48, 49, 50, 51] (by decide +kernel) (by decide +kernel)
set_option maxRecDepth 20000 in
theorem gX4_countFrom_X1_hears : GoodIn wsX4_countFrom (wsV RX4 24 RX1 yX1_hears wsX1_hears) := goodIn_app (goodIn_of _ (by decide +kernel)) ggX4_countFrom_X1_hears
set_option maxRecDepth 20000 in
theorem ggX4_countFrom_X8_allow : GoodIn wsX4_countFrom wsX8_allow := goodIn_r _ [13, 14, 15, 16, 17, 54, 55, 56, 57] (by decide +kernel) (by decide +kernel)
set_option maxRecDepth 20000 in
theorem gX4_countFrom_X8_allow : GoodIn wsX4_countFrom (wsV RX4 28 RX8 yX8_allow wsX8_allow) := goodIn_app (goodIn_of _ (by decide +kernel)) ggX4_countFrom_X8_allow
set_option maxRecDepth 20000 in
theorem ggX4_countFrom_X4_goOverWay : GoodIn wsX4_countFrom wsX4_goOverWay := goodIn_r _ [22, 23, 2, 24, 25, 26, 27, 3, 4, 5, 6, 7, 8, 9, 10, 11, 12, 13, 14, 15, 16, 17, 28, 29, 30, 21, 31, 32, 33, 34, 35, 36, 37, 38, 39, 40, 41, 42, 43, 44, 45, 46, 47, 52, 53, 48, 49, 50, 51, 54, 55, 56, 57] (by decide +kernel) (by decide +kernel)
set_option maxRecDepth 20000 in
theorem gX4_countFrom_X4_goOverWay : GoodIn wsX4_countFrom (wsV RX4 34 RX4 yX4_goOverWay wsX4_goOverWay) := goodIn_app (goodIn_of _ (by decide +kernel)) ggX4_countFrom_X4_goOverWay
theorem dX4_countFrom_0 : decode cX4_countFrom 0 = .ok (.aload_n 1, 1) := by decide +kernel
theorem dX4_countFrom_1 : decode cX4_countFrom 1 = .ok (.getfield 18, 3) := by decide +kernel
theorem dX4_countFrom_4 : decode cX4_countFrom 4 = .ok (.ifCond .ne 5, 3) := by decide +kernel
theorem dX4_countFrom_7 : decode cX4_countFrom 7 = .ok (.iconst 0, 1) := by decide +kernel
theorem dX4_countFrom_8 : decode cX4_countFrom 8 = .ok (.ireturn, 1) := by decide +kernel
theorem dX4_countFrom_9 : decode cX4_countFrom 9 = .ok (.iconst 0, 1) := by decide +kernel
theorem dX4_countFrom_10 : decode cX4_countFrom 10 = .ok (.istore 4, 2) := by decide +kernel
theorem dX4_countFrom_12 : decode cX4_countFrom 12 = .ok (.iload 4, 2) := by decide +kernel
theorem dX4_countFrom_14 : decode cX4_countFrom 14 = .ok (.iconst 5, 1) := by decide +kernel
theorem dX4_countFrom_15 : decode cX4_countFrom 15 = .ok (.if_icmp .ge 17, 3) := by decide +kernel
theorem dX4_countFrom_18 : decode cX4_countFrom 18 = .ok (.aload_n 0, 1) := by decide +kernel
theorem dX4_countFrom_19 : decode cX4_countFrom 19 = .ok (.getfield 9, 3) := by decide +kernel
theorem dX4_countFrom_22 : decode cX4_countFrom 22 = .ok (.iload 4, 2) := by decide +kernel
theorem dX4_countFrom_24 : decode cX4_countFrom 24 = .ok (.iconst 0, 1) := by decide +kernel
theorem dX4_countFrom_25 : decode cX4_countFrom 25 = .ok (.iastore, 1) := by decide +kernel
theorem dX4_countFrom_26 : decode cX4_countFrom 26 = .ok (.iinc 4 1, 3) := by decide +kernel
theorem dX4_countFrom_29 : decode cX4_countFrom 29 = .ok (.goto (-17), 3) := by decide +kernel
theorem dX4_countFrom_32 : decode cX4_countFrom 32 = .ok (.aload_n 1, 1) := by decide +kernel
theorem dX4_countFrom_33 : decode cX4_countFrom 33 = .ok (.iconst 0, 1) := by decide +kernel
theorem dX4_countFrom_34 : decode cX4_countFrom 34 = .ok (.iload_n 3, 1) := by decide +kernel
theorem dX4_countFrom_35 : decode cX4_countFrom 35 = .ok (.invokevirtual 24, 3) := by decide +kernel
theorem dX4_countFrom_38 : decode cX4_countFrom 38 = .ok (.istore 4, 2) := by decide +kernel
theorem dX4_countFrom_40 : decode cX4_countFrom 40 = .ok (.aload_n 0, 1) := by decide +kernel
theorem dX4_countFrom_41 : decode cX4_countFrom 41 = .ok (.getfield 9, 3) := by decide +kernel
theorem dX4_countFrom_44 : decode cX4_countFrom 44 = .ok (.iload 4, 2) := by decide +kernel
theorem dX4_countFrom_46 : decode cX4_countFrom 46 = .ok (.aload_n 2, 1) := by decide +kernel
theorem dX4_countFrom_47 : decode cX4_countFrom 47 = .ok (.iconst 0, 1) := by decide +kernel
theorem dX4_countFrom_48 : decode cX4_countFrom 48 = .ok (.iload 4, 2) := by decide +kernel
theorem dX4_countFrom_50 : decode cX4_countFrom 50 = .ok (.invokevirtual 28, 3) := by decide +kernel
theorem dX4_countFrom_53 : decode cX4_countFrom 53 = .ok (.ifCond .eq 7, 3) := by decide +kernel
theorem dX4_countFrom_56 : decode cX4_countFrom 56 = .ok (.iconst 1, 1) := by decide +kernel
theorem dX4_countFrom_57 : decode cX4_countFrom 57 = .ok (.goto 4, 3) := by decide +kernel
theorem dX4_countFrom_60 : decode cX4_countFrom 60 = .ok (.iconst 0, 1) := by decide +kernel
theorem dX4_countFrom_61 : decode cX4_countFrom 61 = .ok (.iastore, 1) := by decide +kernel
theorem dX4_countFrom_62 : decode cX4_countFrom 62 = .ok (.iconst 1, 1) := by decide +kernel
theorem dX4_countFrom_63 : decode cX4_countFrom 63 = .ok (.istore 5, 2) := by decide +kernel
theorem dX4_countFrom_65 : decode cX4_countFrom 65 = .ok (.iload 5, 2) := by decide +kernel
theorem dX4_countFrom_67 : decode cX4_countFrom 67 = .ok (.aload_n 1, 1) := by decide +kernel
theorem dX4_countFrom_68 : decode cX4_countFrom 68 = .ok (.getfield 18, 3) := by decide +kernel
theorem dX4_countFrom_71 : decode cX4_countFrom 71 = .ok (.if_icmp .ge 17, 3) := by decide +kernel
theorem dX4_countFrom_74 : decode cX4_countFrom 74 = .ok (.aload_n 0, 1) := by decide +kernel
theorem dX4_countFrom_75 : decode cX4_countFrom 75 = .ok (.aload_n 1, 1) := by decide +kernel
theorem dX4_countFrom_76 : decode cX4_countFrom 76 = .ok (.aload_n 2, 1) := by decide +kernel
theorem dX4_countFrom_77 : decode cX4_countFrom 77 = .ok (.iload 5, 2) := by decide +kernel
theorem dX4_countFrom_79 : decode cX4_countFrom 79 = .ok (.invokevirtual 34, 3) := by decide +kernel
theorem dX4_countFrom_82 : decode cX4_countFrom 82 = .ok (.iinc 5 1, 3) := by decide +kernel
theorem dX4_countFrom_85 : decode cX4_countFrom 85 = .ok (.goto (-20), 3) := by decide +kernel
theorem dX4_countFrom_88 : decode cX4_countFrom 88 = .ok (.iconst 0, 1) := by decide +kernel
theorem dX4_countFrom_89 : decode cX4_countFrom 89 = .ok (.istore 5, 2) := by decide +kernel
theorem dX4_countFrom_91 : decode cX4_countFrom 91 = .ok (.iconst 0, 1) := by decide +kernel
theorem dX4_countFrom_92 : decode cX4_countFrom 92 = .ok (.istore 6, 2) := by decide +kernel
theorem dX4_countFrom_94 : decode cX4_countFrom 94 = .ok (.iload 6, 2) := by decide +kernel
theorem dX4_countFrom_96 : decode cX4_countFrom 96 = .ok (.iconst 5, 1) := by decide +kernel
theorem dX4_countFrom_97 : decode cX4_countFrom 97 = .ok (.if_icmp .ge 21, 3) := by decide +kernel
theorem dX4_countFrom_100 : decode cX4_countFrom 100 = .ok (.iload 5, 2) := by decide +kernel
theorem dX4_countFrom_102 : decode cX4_countFrom 102 = .ok (.aload_n 0, 1) := by decide +kernel
theorem dX4_countFrom_103 : decode cX4_countFrom 103 = .ok (.getfield 9, 3) := by decide +kernel
theorem dX4_countFrom_106 : decode cX4_countFrom 106 = .ok (.iload 6, 2) := by decide +kernel
theorem dX4_countFrom_108 : decode cX4_countFrom 108 = .ok (.iaload, 1) := by decide +kernel
theorem dX4_countFrom_109 : decode cX4_countFrom 109 = .ok (.iadd, 1) := by decide +kernel
theorem dX4_countFrom_110 : decode cX4_countFrom 110 = .ok (.istore 5, 2) := by decide +kernel
theorem dX4_countFrom_112 : decode cX4_countFrom 112 = .ok (.iinc 6 1, 3) := by decide +kernel
theorem dX4_countFrom_115 : decode cX4_countFrom 115 = .ok (.goto (-21), 3) := by decide +kernel
theorem dX4_countFrom_118 : decode cX4_countFrom 118 = .ok (.iload 5, 2) := by decide +kernel
theorem dX4_countFrom_120 : decode cX4_countFrom 120 = .ok (.ireturn, 1) := by decide +kernel
set_option maxRecDepth 20000 in
theorem ggX4_goOverWay_X1_hears : GoodIn wsX4_goOverWay wsX1_hears := goodIn_r _ [11, 12, 45, 46, 47, 48] (by decide +kernel) (by decide +kernel)
set_option maxRecDepth 20000 in
theorem gX4_goOverWay_X1_hears : GoodIn wsX4_goOverWay (wsV RX4 24 RX1 yX1_hears wsX1_hears) := goodIn_app (goodIn_of _ (by decide +kernel)) ggX4_goOverWay_X1_hears
set_option maxRecDepth 20000 in
theorem ggX4_goOverWay_X8_allow : GoodIn wsX4_goOverWay wsX8_allow := goodIn_r _ [17, 18, 19, 20, 21, 49, 50, 51, 52] (by decide +kernel) (by decide +kernel)
set_option maxRecDepth 20000 in
theorem gX4_goOverWay_X8_allow : GoodIn wsX4_goOverWay (wsV RX4 28 RX8 yX8_allow wsX8_allow) := goodIn_app (goodIn_of _ (by decide +kernel)) ggX4_goOverWay_X8_allow
set_option maxRecDepth 20000 in
theorem ggX4_goOverWay_X4_arriving : GoodIn wsX4_goOverWay wsX4_arriving := goodIn_r _ [26, 2, 27, 28, 29, 10, 30, 31, 32, 33, 34, 35, 36, 37, 38, 39, 40, 41, 42, 43, 44, 45, 46, 47, 48] (by decide +kernel) (by decide +kernel)
set_option maxRecDepth 20000 in
theorem gX4_goOverWay_X4_arriving : GoodIn wsX4_goOverWay (wsV RX4 38 RX4 yX4_arriving wsX4_arriving) := goodIn_app (goodIn_of _ (by decide +kernel)) ggX4_goOverWay_X4_arriving
theorem dX4_goOverWay_0 : decode cX4_goOverWay 0 = .ok (.iconst 0, 1) := by decide +kernel
theorem dX4_goOverWay_1 : decode cX4_goOverWay 1 = .ok (.istore 4, 2) := by decide +kernel
theorem dX4_goOverWay_3 : decode cX4_goOverWay 3 = .ok (.iload 4, 2) := by decide +kernel
theorem dX4_goOverWay_5 : decode cX4_goOverWay 5 = .ok (.iconst 5, 1) := by decide +kernel
theorem dX4_goOverWay_6 : decode cX4_goOverWay 6 = .ok (.if_icmp .ge 47, 3) := by decide +kernel
theorem dX4_goOverWay_9 : decode cX4_goOverWay 9 = .ok (.aload_n 1, 1) := by decide +kernel
theorem dX4_goOverWay_10 : decode cX4_goOverWay 10 = .ok (.iload_n 3, 1) := by decide +kernel
theorem dX4_goOverWay_11 : decode cX4_goOverWay 11 = .ok (.iload 4, 2) := by decide +kernel
theorem dX4_goOverWay_13 : decode cX4_goOverWay 13 = .ok (.invokevirtual 24, 3) := by decide +kernel
theorem dX4_goOverWay_16 : decode cX4_goOverWay 16 = .ok (.istore 5, 2) := by decide +kernel
theorem dX4_goOverWay_18 : decode cX4_goOverWay 18 = .ok (.aload_n 0, 1) := by decide +kernel
theorem dX4_goOverWay_19 : decode cX4_goOverWay 19 = .ok (.getfield 15, 3) := by decide +kernel
theorem dX4_goOverWay_22 : decode cX4_goOverWay 22 = .ok (.iload 5, 2) := by decide +kernel
theorem dX4_goOverWay_24 : decode cX4_goOverWay 24 = .ok (.aload_n 2, 1) := by decide +kernel
theorem dX4_goOverWay_25 : decode cX4_goOverWay 25 = .ok (.iload_n 3, 1) := by decide +kernel
theorem dX4_goOverWay_26 : decode cX4_goOverWay 26 = .ok (.iload 5, 2) := by decide +kernel
theorem dX4_goOverWay_28 : decode cX4_goOverWay 28 = .ok (.invokevirtual 28, 3) := by decide +kernel
theorem dX4_goOverWay_31 : decode cX4_goOverWay 31 = .ok (.ifCond .eq 14, 3) := by decide +kernel
theorem dX4_goOverWay_34 : decode cX4_goOverWay 34 = .ok (.aload_n 0, 1) := by decide +kernel
theorem dX4_goOverWay_35 : decode cX4_goOverWay 35 = .ok (.aload_n 1, 1) := by decide +kernel
theorem dX4_goOverWay_36 : decode cX4_goOverWay 36 = .ok (.iload_n 3, 1) := by decide +kernel
theorem dX4_goOverWay_37 : decode cX4_goOverWay 37 = .ok (.iload 4, 2) := by decide +kernel
theorem dX4_goOverWay_39 : decode cX4_goOverWay 39 = .ok (.invokevirtual 38, 3) := by decide +kernel
theorem dX4_goOverWay_42 : decode cX4_goOverWay 42 = .ok (.goto 4, 3) := by decide +kernel
theorem dX4_goOverWay_45 : decode cX4_goOverWay 45 = .ok (.iconst 0, 1) := by decide +kernel
theorem dX4_goOverWay_46 : decode cX4_goOverWay 46 = .ok (.iastore, 1) := by decide +kernel
theorem dX4_goOverWay_47 : decode cX4_goOverWay 47 = .ok (.iinc 4 1, 3) := by decide +kernel
theorem dX4_goOverWay_50 : decode cX4_goOverWay 50 = .ok (.goto (-47), 3) := by decide +kernel
theorem dX4_goOverWay_53 : decode cX4_goOverWay 53 = .ok (.aload_n 0, 1) := by decide +kernel
theorem dX4_goOverWay_54 : decode cX4_goOverWay 54 = .ok (.getfield 15, 3) := by decide +kernel
theorem dX4_goOverWay_57 : decode cX4_goOverWay 57 = .ok (.iconst 0, 1) := by decide +kernel
theorem dX4_goOverWay_58 : decode cX4_goOverWay 58 = .ok (.aload_n 0, 1) := by decide +kernel
theorem dX4_goOverWay_59 : decode cX4_goOverWay 59 = .ok (.getfield 9, 3) := by decide +kernel
theorem dX4_goOverWay_62 : decode cX4_goOverWay 62 = .ok (.iconst 0, 1) := by decide +kernel
theorem dX4_goOverWay_63 : decode cX4_goOverWay 63 = .ok (.iconst 5, 1) := by decide +kernel
theorem dX4_goOverWay_64 : decode cX4_goOverWay 64 = .ok (.invokestatic 42, 3) := by decide +kernel
theorem dX4_goOverWay_67 : decode cX4_goOverWay 67 = .ok (.return_, 1) := by decide +kernel
set_option maxRecDepth 20000 in
theorem ggX4_arriving_X1_wayTenths : GoodIn wsX4_arriving wsX1_wayTenths := goodIn_r _ [6, 7, 8, 9, 5, 10, 11, 12, 13, 14, 15, 16, 17, 18, 21, 22, 23, 24] (by decide +kernel) (by decide +kernel)
set_option maxRecDepth 20000 in
theorem gX4_arriving_X1_wayTenths : GoodIn wsX4_arriving (wsV RX4 48 RX1 yX1_wayTenths wsX1_wayTenths) := goodIn_app (goodIn_of _ (by decide +kernel)) ggX4_arriving_X1_wayTenths
theorem dX4_arriving_0 : decode cX4_arriving 0 = .ok (.iconst 0, 1) := by decide +kernel
theorem dX4_arriving_1 : decode cX4_arriving 1 = .ok (.istore 4, 2) := by decide +kernel
theorem dX4_arriving_3 : decode cX4_arriving 3 = .ok (.iconst 0, 1) := by decide +kernel
theorem dX4_arriving_4 : decode cX4_arriving 4 = .ok (.istore 5, 2) := by decide +kernel
theorem dX4_arriving_6 : decode cX4_arriving 6 = .ok (.iload 5, 2) := by decide +kernel
theorem dX4_arriving_8 : decode cX4_arriving 8 = .ok (.iconst 5, 1) := by decide +kernel
theorem dX4_arriving_9 : decode cX4_arriving 9 = .ok (.if_icmp .ge 36, 3) := by decide +kernel
theorem dX4_arriving_12 : decode cX4_arriving 12 = .ok (.iload 4, 2) := by decide +kernel
theorem dX4_arriving_14 : decode cX4_arriving 14 = .ok (.aload_n 1, 1) := by decide +kernel
theorem dX4_arriving_15 : decode cX4_arriving 15 = .ok (.iload_n 2, 1) := by decide +kernel
theorem dX4_arriving_16 : decode cX4_arriving 16 = .ok (.iload 5, 2) := by decide +kernel
theorem dX4_arriving_18 : decode cX4_arriving 18 = .ok (.iload_n 3, 1) := by decide +kernel
theorem dX4_arriving_19 : decode cX4_arriving 19 = .ok (.invokevirtual 48, 3) := by decide +kernel
theorem dX4_arriving_22 : decode cX4_arriving 22 = .ok (.ifCond .le 13, 3) := by decide +kernel
theorem dX4_arriving_25 : decode cX4_arriving 25 = .ok (.aload_n 0, 1) := by decide +kernel
theorem dX4_arriving_26 : decode cX4_arriving 26 = .ok (.getfield 9, 3) := by decide +kernel
theorem dX4_arriving_29 : decode cX4_arriving 29 = .ok (.iload 5, 2) := by decide +kernel
theorem dX4_arriving_31 : decode cX4_arriving 31 = .ok (.iaload, 1) := by decide +kernel
theorem dX4_arriving_32 : decode cX4_arriving 32 = .ok (.goto 4, 3) := by decide +kernel
theorem dX4_arriving_35 : decode cX4_arriving 35 = .ok (.iconst 0, 1) := by decide +kernel
theorem dX4_arriving_36 : decode cX4_arriving 36 = .ok (.iadd, 1) := by decide +kernel
theorem dX4_arriving_37 : decode cX4_arriving 37 = .ok (.istore 4, 2) := by decide +kernel
theorem dX4_arriving_39 : decode cX4_arriving 39 = .ok (.iinc 5 1, 3) := by decide +kernel
theorem dX4_arriving_42 : decode cX4_arriving 42 = .ok (.goto (-36), 3) := by decide +kernel
theorem dX4_arriving_45 : decode cX4_arriving 45 = .ok (.iload 4, 2) := by decide +kernel
theorem dX4_arriving_47 : decode cX4_arriving 47 = .ok (.ireturn, 1) := by decide +kernel
theorem dX5_init_0 : decode cX5_init 0 = .ok (.aload_n 0, 1) := by decide +kernel
theorem dX5_init_1 : decode cX5_init 1 = .ok (.invokespecial 3, 3) := by decide +kernel
theorem dX5_init_4 : decode cX5_init 4 = .ok (.aload_n 0, 1) := by decide +kernel
theorem dX5_init_5 : decode cX5_init 5 = .ok (.bipush 7, 2) := by decide +kernel
theorem dX5_init_7 : decode cX5_init 7 = .ok (.newarray .int, 2) := by decide +kernel
theorem dX5_init_9 : decode cX5_init 9 = .ok (.putfield 9, 3) := by decide +kernel
theorem dX5_init_12 : decode cX5_init 12 = .ok (.aload_n 0, 1) := by decide +kernel
theorem dX5_init_13 : decode cX5_init 13 = .ok (.bipush 7, 2) := by decide +kernel
theorem dX5_init_15 : decode cX5_init 15 = .ok (.newarray .int, 2) := by decide +kernel
theorem dX5_init_17 : decode cX5_init 17 = .ok (.putfield 15, 3) := by decide +kernel
theorem dX5_init_20 : decode cX5_init 20 = .ok (.aload_n 0, 1) := by decide +kernel
theorem dX5_init_21 : decode cX5_init 21 = .ok (.bipush 7, 2) := by decide +kernel
theorem dX5_init_23 : decode cX5_init 23 = .ok (.newarray .int, 2) := by decide +kernel
theorem dX5_init_25 : decode cX5_init 25 = .ok (.putfield 18, 3) := by decide +kernel
theorem dX5_init_28 : decode cX5_init 28 = .ok (.aload_n 0, 1) := by decide +kernel
theorem dX5_init_29 : decode cX5_init 29 = .ok (.bipush 7, 2) := by decide +kernel
theorem dX5_init_31 : decode cX5_init 31 = .ok (.newarray .int, 2) := by decide +kernel
theorem dX5_init_33 : decode cX5_init 33 = .ok (.putfield 21, 3) := by decide +kernel
theorem dX5_init_36 : decode cX5_init 36 = .ok (.aload_n 0, 1) := by decide +kernel
theorem dX5_init_37 : decode cX5_init 37 = .ok (.bipush 7, 2) := by decide +kernel
theorem dX5_init_39 : decode cX5_init 39 = .ok (.newarray .int, 2) := by decide +kernel
theorem dX5_init_41 : decode cX5_init 41 = .ok (.putfield 24, 3) := by decide +kernel
theorem dX5_init_44 : decode cX5_init 44 = .ok (.aload_n 0, 1) := by decide +kernel
theorem dX5_init_45 : decode cX5_init 45 = .ok (.bipush 7, 2) := by decide +kernel
theorem dX5_init_47 : decode cX5_init 47 = .ok (.newarray .int, 2) := by decide +kernel
theorem dX5_init_49 : decode cX5_init 49 = .ok (.putfield 27, 3) := by decide +kernel
theorem dX5_init_52 : decode cX5_init 52 = .ok (.aload_n 0, 1) := by decide +kernel
theorem dX5_init_53 : decode cX5_init 53 = .ok (.bipush 7, 2) := by decide +kernel
theorem dX5_init_55 : decode cX5_init 55 = .ok (.newarray .boolean, 2) := by decide +kernel
theorem dX5_init_57 : decode cX5_init 57 = .ok (.putfield 30, 3) := by decide +kernel
theorem dX5_init_60 : decode cX5_init 60 = .ok (.aload_n 0, 1) := by decide +kernel
theorem dX5_init_61 : decode cX5_init 61 = .ok (.iconst 0, 1) := by decide +kernel
theorem dX5_init_62 : decode cX5_init 62 = .ok (.putfield 34, 3) := by decide +kernel
theorem dX5_init_65 : decode cX5_init 65 = .ok (.aload_n 0, 1) := by decide +kernel
theorem dX5_init_66 : decode cX5_init 66 = .ok (.lconst 0, 1) := by decide +kernel
theorem dX5_init_67 : decode cX5_init 67 = .ok (.putfield 38, 3) := by decide +kernel
theorem dX5_init_70 : decode cX5_init 70 = .ok (.return_, 1) := by decide +kernel
set_option maxRecDepth 20000 in
theorem ggX5_setUp_X1_has : GoodIn wsX5_setUp wsX1_has := goodIn_r _ [14, 15, 25, 26, 27, 28] (by decide +kernel) (by decide +kernel)
set_option maxRecDepth 20000 in
theorem gX5_setUp_X1_has : GoodIn wsX5_setUp (wsV RX5 42 RX1 yX1_has wsX1_has) := goodIn_app (goodIn_of _ (by decide +kernel)) ggX5_setUp_X1_has
theorem dX5_setUp_0 : decode cX5_setUp 0 = .ok (.iconst 0, 1) := by decide +kernel
theorem dX5_setUp_1 : decode cX5_setUp 1 = .ok (.istore_n 2, 1) := by decide +kernel
theorem dX5_setUp_2 : decode cX5_setUp 2 = .ok (.iload_n 2, 1) := by decide +kernel
theorem dX5_setUp_3 : decode cX5_setUp 3 = .ok (.bipush 7, 2) := by decide +kernel
theorem dX5_setUp_5 : decode cX5_setUp 5 = .ok (.if_icmp .ge 83, 3) := by decide +kernel
theorem dX5_setUp_8 : decode cX5_setUp 8 = .ok (.aload_n 0, 1) := by decide +kernel
theorem dX5_setUp_9 : decode cX5_setUp 9 = .ok (.getfield 9, 3) := by decide +kernel
theorem dX5_setUp_12 : decode cX5_setUp 12 = .ok (.iload_n 2, 1) := by decide +kernel
theorem dX5_setUp_13 : decode cX5_setUp 13 = .ok (.bipush (-9), 2) := by decide +kernel
theorem dX5_setUp_15 : decode cX5_setUp 15 = .ok (.iastore, 1) := by decide +kernel
theorem dX5_setUp_16 : decode cX5_setUp 16 = .ok (.aload_n 0, 1) := by decide +kernel
theorem dX5_setUp_17 : decode cX5_setUp 17 = .ok (.getfield 15, 3) := by decide +kernel
theorem dX5_setUp_20 : decode cX5_setUp 20 = .ok (.iload_n 2, 1) := by decide +kernel
theorem dX5_setUp_21 : decode cX5_setUp 21 = .ok (.bipush (-9), 2) := by decide +kernel
theorem dX5_setUp_23 : decode cX5_setUp 23 = .ok (.iastore, 1) := by decide +kernel
theorem dX5_setUp_24 : decode cX5_setUp 24 = .ok (.aload_n 0, 1) := by decide +kernel
theorem dX5_setUp_25 : decode cX5_setUp 25 = .ok (.getfield 18, 3) := by decide +kernel
theorem dX5_setUp_28 : decode cX5_setUp 28 = .ok (.iload_n 2, 1) := by decide +kernel
theorem dX5_setUp_29 : decode cX5_setUp 29 = .ok (.bipush (-9), 2) := by decide +kernel
theorem dX5_setUp_31 : decode cX5_setUp 31 = .ok (.iastore, 1) := by decide +kernel
theorem dX5_setUp_32 : decode cX5_setUp 32 = .ok (.aload_n 0, 1) := by decide +kernel
theorem dX5_setUp_33 : decode cX5_setUp 33 = .ok (.getfield 21, 3) := by decide +kernel
theorem dX5_setUp_36 : decode cX5_setUp 36 = .ok (.iload_n 2, 1) := by decide +kernel
theorem dX5_setUp_37 : decode cX5_setUp 37 = .ok (.iconst 0, 1) := by decide +kernel
theorem dX5_setUp_38 : decode cX5_setUp 38 = .ok (.iastore, 1) := by decide +kernel
theorem dX5_setUp_39 : decode cX5_setUp 39 = .ok (.aload_n 0, 1) := by decide +kernel
theorem dX5_setUp_40 : decode cX5_setUp 40 = .ok (.getfield 24, 3) := by decide +kernel
theorem dX5_setUp_43 : decode cX5_setUp 43 = .ok (.iload_n 2, 1) := by decide +kernel
theorem dX5_setUp_44 : decode cX5_setUp 44 = .ok (.iconst 0, 1) := by decide +kernel
theorem dX5_setUp_45 : decode cX5_setUp 45 = .ok (.iastore, 1) := by decide +kernel
theorem dX5_setUp_46 : decode cX5_setUp 46 = .ok (.aload_n 0, 1) := by decide +kernel
theorem dX5_setUp_47 : decode cX5_setUp 47 = .ok (.getfield 27, 3) := by decide +kernel
theorem dX5_setUp_50 : decode cX5_setUp 50 = .ok (.iload_n 2, 1) := by decide +kernel
theorem dX5_setUp_51 : decode cX5_setUp 51 = .ok (.iconst 0, 1) := by decide +kernel
theorem dX5_setUp_52 : decode cX5_setUp 52 = .ok (.iastore, 1) := by decide +kernel
theorem dX5_setUp_53 : decode cX5_setUp 53 = .ok (.aload_n 0, 1) := by decide +kernel
theorem dX5_setUp_54 : decode cX5_setUp 54 = .ok (.getfield 30, 3) := by decide +kernel
theorem dX5_setUp_57 : decode cX5_setUp 57 = .ok (.iload_n 2, 1) := by decide +kernel
theorem dX5_setUp_58 : decode cX5_setUp 58 = .ok (.aload_n 1, 1) := by decide +kernel
theorem dX5_setUp_59 : decode cX5_setUp 59 = .ok (.iload_n 2, 1) := by decide +kernel
theorem dX5_setUp_60 : decode cX5_setUp 60 = .ok (.invokevirtual 42, 3) := by decide +kernel
theorem dX5_setUp_63 : decode cX5_setUp 63 = .ok (.ifCond .eq 17, 3) := by decide +kernel
theorem dX5_setUp_66 : decode cX5_setUp 66 = .ok (.aload_n 1, 1) := by decide +kernel
theorem dX5_setUp_67 : decode cX5_setUp 67 = .ok (.getfield 48, 3) := by decide +kernel
theorem dX5_setUp_70 : decode cX5_setUp 70 = .ok (.iload_n 2, 1) := by decide +kernel
theorem dX5_setUp_71 : decode cX5_setUp 71 = .ok (.iaload, 1) := by decide +kernel
theorem dX5_setUp_72 : decode cX5_setUp 72 = .ok (.iconst 3, 1) := by decide +kernel
theorem dX5_setUp_73 : decode cX5_setUp 73 = .ok (.if_icmp .ne 7, 3) := by decide +kernel
theorem dX5_setUp_76 : decode cX5_setUp 76 = .ok (.iconst 1, 1) := by decide +kernel
theorem dX5_setUp_77 : decode cX5_setUp 77 = .ok (.goto 4, 3) := by decide +kernel
theorem dX5_setUp_80 : decode cX5_setUp 80 = .ok (.iconst 0, 1) := by decide +kernel
theorem dX5_setUp_81 : decode cX5_setUp 81 = .ok (.bastore, 1) := by decide +kernel
theorem dX5_setUp_82 : decode cX5_setUp 82 = .ok (.iinc 2 1, 3) := by decide +kernel
theorem dX5_setUp_85 : decode cX5_setUp 85 = .ok (.goto (-83), 3) := by decide +kernel
theorem dX5_setUp_88 : decode cX5_setUp 88 = .ok (.aload_n 0, 1) := by decide +kernel
theorem dX5_setUp_89 : decode cX5_setUp 89 = .ok (.iconst 0, 1) := by decide +kernel
theorem dX5_setUp_90 : decode cX5_setUp 90 = .ok (.putfield 34, 3) := by decide +kernel
theorem dX5_setUp_93 : decode cX5_setUp 93 = .ok (.return_, 1) := by decide +kernel
theorem dX5_copyFrom_0 : decode cX5_copyFrom 0 = .ok (.iconst 0, 1) := by decide +kernel
theorem dX5_copyFrom_1 : decode cX5_copyFrom 1 = .ok (.istore_n 2, 1) := by decide +kernel
theorem dX5_copyFrom_2 : decode cX5_copyFrom 2 = .ok (.iload_n 2, 1) := by decide +kernel
theorem dX5_copyFrom_3 : decode cX5_copyFrom 3 = .ok (.bipush 7, 2) := by decide +kernel
theorem dX5_copyFrom_5 : decode cX5_copyFrom 5 = .ok (.if_icmp .ge 93, 3) := by decide +kernel
theorem dX5_copyFrom_8 : decode cX5_copyFrom 8 = .ok (.aload_n 0, 1) := by decide +kernel
theorem dX5_copyFrom_9 : decode cX5_copyFrom 9 = .ok (.getfield 9, 3) := by decide +kernel
theorem dX5_copyFrom_12 : decode cX5_copyFrom 12 = .ok (.iload_n 2, 1) := by decide +kernel
theorem dX5_copyFrom_13 : decode cX5_copyFrom 13 = .ok (.aload_n 1, 1) := by decide +kernel
theorem dX5_copyFrom_14 : decode cX5_copyFrom 14 = .ok (.getfield 9, 3) := by decide +kernel
theorem dX5_copyFrom_17 : decode cX5_copyFrom 17 = .ok (.iload_n 2, 1) := by decide +kernel
theorem dX5_copyFrom_18 : decode cX5_copyFrom 18 = .ok (.iaload, 1) := by decide +kernel
theorem dX5_copyFrom_19 : decode cX5_copyFrom 19 = .ok (.iastore, 1) := by decide +kernel
theorem dX5_copyFrom_20 : decode cX5_copyFrom 20 = .ok (.aload_n 0, 1) := by decide +kernel
theorem dX5_copyFrom_21 : decode cX5_copyFrom 21 = .ok (.getfield 15, 3) := by decide +kernel
theorem dX5_copyFrom_24 : decode cX5_copyFrom 24 = .ok (.iload_n 2, 1) := by decide +kernel
theorem dX5_copyFrom_25 : decode cX5_copyFrom 25 = .ok (.aload_n 1, 1) := by decide +kernel
theorem dX5_copyFrom_26 : decode cX5_copyFrom 26 = .ok (.getfield 15, 3) := by decide +kernel
theorem dX5_copyFrom_29 : decode cX5_copyFrom 29 = .ok (.iload_n 2, 1) := by decide +kernel
theorem dX5_copyFrom_30 : decode cX5_copyFrom 30 = .ok (.iaload, 1) := by decide +kernel
theorem dX5_copyFrom_31 : decode cX5_copyFrom 31 = .ok (.iastore, 1) := by decide +kernel
theorem dX5_copyFrom_32 : decode cX5_copyFrom 32 = .ok (.aload_n 0, 1) := by decide +kernel
theorem dX5_copyFrom_33 : decode cX5_copyFrom 33 = .ok (.getfield 18, 3) := by decide +kernel
theorem dX5_copyFrom_36 : decode cX5_copyFrom 36 = .ok (.iload_n 2, 1) := by decide +kernel
theorem dX5_copyFrom_37 : decode cX5_copyFrom 37 = .ok (.aload_n 1, 1) := by decide +kernel
theorem dX5_copyFrom_38 : decode cX5_copyFrom 38 = .ok (.getfield 18, 3) := by decide +kernel
theorem dX5_copyFrom_41 : decode cX5_copyFrom 41 = .ok (.iload_n 2, 1) := by decide +kernel
theorem dX5_copyFrom_42 : decode cX5_copyFrom 42 = .ok (.iaload, 1) := by decide +kernel
theorem dX5_copyFrom_43 : decode cX5_copyFrom 43 = .ok (.iastore, 1) := by decide +kernel
theorem dX5_copyFrom_44 : decode cX5_copyFrom 44 = .ok (.aload_n 0, 1) := by decide +kernel
theorem dX5_copyFrom_45 : decode cX5_copyFrom 45 = .ok (.getfield 21, 3) := by decide +kernel
theorem dX5_copyFrom_48 : decode cX5_copyFrom 48 = .ok (.iload_n 2, 1) := by decide +kernel
theorem dX5_copyFrom_49 : decode cX5_copyFrom 49 = .ok (.aload_n 1, 1) := by decide +kernel
theorem dX5_copyFrom_50 : decode cX5_copyFrom 50 = .ok (.getfield 21, 3) := by decide +kernel
theorem dX5_copyFrom_53 : decode cX5_copyFrom 53 = .ok (.iload_n 2, 1) := by decide +kernel
theorem dX5_copyFrom_54 : decode cX5_copyFrom 54 = .ok (.iaload, 1) := by decide +kernel
theorem dX5_copyFrom_55 : decode cX5_copyFrom 55 = .ok (.iastore, 1) := by decide +kernel
theorem dX5_copyFrom_56 : decode cX5_copyFrom 56 = .ok (.aload_n 0, 1) := by decide +kernel
theorem dX5_copyFrom_57 : decode cX5_copyFrom 57 = .ok (.getfield 24, 3) := by decide +kernel
theorem dX5_copyFrom_60 : decode cX5_copyFrom 60 = .ok (.iload_n 2, 1) := by decide +kernel
theorem dX5_copyFrom_61 : decode cX5_copyFrom 61 = .ok (.aload_n 1, 1) := by decide +kernel
theorem dX5_copyFrom_62 : decode cX5_copyFrom 62 = .ok (.getfield 24, 3) := by decide +kernel
theorem dX5_copyFrom_65 : decode cX5_copyFrom 65 = .ok (.iload_n 2, 1) := by decide +kernel
theorem dX5_copyFrom_66 : decode cX5_copyFrom 66 = .ok (.iaload, 1) := by decide +kernel
theorem dX5_copyFrom_67 : decode cX5_copyFrom 67 = .ok (.iastore, 1) := by decide +kernel
theorem dX5_copyFrom_68 : decode cX5_copyFrom 68 = .ok (.aload_n 0, 1) := by decide +kernel
theorem dX5_copyFrom_69 : decode cX5_copyFrom 69 = .ok (.getfield 27, 3) := by decide +kernel
theorem dX5_copyFrom_72 : decode cX5_copyFrom 72 = .ok (.iload_n 2, 1) := by decide +kernel
theorem dX5_copyFrom_73 : decode cX5_copyFrom 73 = .ok (.aload_n 1, 1) := by decide +kernel
theorem dX5_copyFrom_74 : decode cX5_copyFrom 74 = .ok (.getfield 27, 3) := by decide +kernel
theorem dX5_copyFrom_77 : decode cX5_copyFrom 77 = .ok (.iload_n 2, 1) := by decide +kernel
theorem dX5_copyFrom_78 : decode cX5_copyFrom 78 = .ok (.iaload, 1) := by decide +kernel
theorem dX5_copyFrom_79 : decode cX5_copyFrom 79 = .ok (.iastore, 1) := by decide +kernel
theorem dX5_copyFrom_80 : decode cX5_copyFrom 80 = .ok (.aload_n 0, 1) := by decide +kernel
theorem dX5_copyFrom_81 : decode cX5_copyFrom 81 = .ok (.getfield 30, 3) := by decide +kernel
theorem dX5_copyFrom_84 : decode cX5_copyFrom 84 = .ok (.iload_n 2, 1) := by decide +kernel
theorem dX5_copyFrom_85 : decode cX5_copyFrom 85 = .ok (.aload_n 1, 1) := by decide +kernel
theorem dX5_copyFrom_86 : decode cX5_copyFrom 86 = .ok (.getfield 30, 3) := by decide +kernel
theorem dX5_copyFrom_89 : decode cX5_copyFrom 89 = .ok (.iload_n 2, 1) := by decide +kernel
theorem dX5_copyFrom_90 : decode cX5_copyFrom 90 = .ok (.baload, 1) := by decide +kernel
theorem dX5_copyFrom_91 : decode cX5_copyFrom 91 = .ok (.bastore, 1) := by decide +kernel
theorem dX5_copyFrom_92 : decode cX5_copyFrom 92 = .ok (.iinc 2 1, 3) := by decide +kernel
theorem dX5_copyFrom_95 : decode cX5_copyFrom 95 = .ok (.goto (-93), 3) := by decide +kernel
theorem dX5_copyFrom_98 : decode cX5_copyFrom 98 = .ok (.aload_n 0, 1) := by decide +kernel
theorem dX5_copyFrom_99 : decode cX5_copyFrom 99 = .ok (.aload_n 1, 1) := by decide +kernel
theorem dX5_copyFrom_100 : decode cX5_copyFrom 100 = .ok (.getfield 34, 3) := by decide +kernel
theorem dX5_copyFrom_103 : decode cX5_copyFrom 103 = .ok (.putfield 34, 3) := by decide +kernel
theorem dX5_copyFrom_106 : decode cX5_copyFrom 106 = .ok (.aload_n 0, 1) := by decide +kernel
theorem dX5_copyFrom_107 : decode cX5_copyFrom 107 = .ok (.aload_n 1, 1) := by decide +kernel
theorem dX5_copyFrom_108 : decode cX5_copyFrom 108 = .ok (.getfield 38, 3) := by decide +kernel
theorem dX5_copyFrom_111 : decode cX5_copyFrom 111 = .ok (.putfield 38, 3) := by decide +kernel
theorem dX5_copyFrom_114 : decode cX5_copyFrom 114 = .ok (.return_, 1) := by decide +kernel
set_option maxRecDepth 20000 in
theorem ggX5_giveOrder_X5_tell : GoodIn wsX5_giveOrder wsX5_tell := goodIn_r _ [6, 7, 8, 9, 10, 11, 12, 13, 14, 15, 16, 5, 17, 18, 19, 20, 21, 22, 23, 24, 25, 26, 27, 28, 29, 30, 31, 32, 33, 34] (by decide +kernel) (by decide +kernel)
set_option maxRecDepth 20000 in
theorem gX5_giveOrder_X5_tell : GoodIn wsX5_giveOrder (wsV RX5 51 RX5 yX5_tell wsX5_tell) := goodIn_app (goodIn_of _ (by decide +kernel)) ggX5_giveOrder_X5_tell
theorem dX5_giveOrder_0 : decode cX5_giveOrder 0 = .ok (.aload_n 0, 1) := by decide +kernel
theorem dX5_giveOrder_1 : decode cX5_giveOrder 1 = .ok (.getfield 18, 3) := by decide +kernel
theorem dX5_giveOrder_4 : decode cX5_giveOrder 4 = .ok (.iconst 0, 1) := by decide +kernel
theorem dX5_giveOrder_5 : decode cX5_giveOrder 5 = .ok (.aload_n 0, 1) := by decide +kernel
theorem dX5_giveOrder_6 : decode cX5_giveOrder 6 = .ok (.aload_n 1, 1) := by decide +kernel
theorem dX5_giveOrder_7 : decode cX5_giveOrder 7 = .ok (.iconst 0, 1) := by decide +kernel
theorem dX5_giveOrder_8 : decode cX5_giveOrder 8 = .ok (.iload_n 2, 1) := by decide +kernel
theorem dX5_giveOrder_9 : decode cX5_giveOrder 9 = .ok (.invokevirtual 51, 3) := by decide +kernel
theorem dX5_giveOrder_12 : decode cX5_giveOrder 12 = .ok (.iastore, 1) := by decide +kernel
theorem dX5_giveOrder_13 : decode cX5_giveOrder 13 = .ok (.return_, 1) := by decide +kernel
set_option maxRecDepth 20000 in
theorem ggX5_passMinute_X5_overTheWay : GoodIn wsX5_passMinute wsX5_overTheWay := goodIn_r _ [8, 9, 10, 11, 12, 13, 14, 15, 16, 17, 18, 19, 20, 21, 22, 23, 24, 7, 25, 26, 27, 28, 29, 30, 55, 56, 57, 58, 59, 60, 61, 62, 63, 64, 65, 66, 67] (by decide +kernel) (by decide +kernel)
set_option maxRecDepth 20000 in
theorem gX5_passMinute_X5_overTheWay : GoodIn wsX5_passMinute (wsV RX5 58 RX5 yX5_overTheWay wsX5_overTheWay) := goodIn_app (goodIn_of _ (by decide +kernel)) ggX5_passMinute_X5_overTheWay
set_option maxRecDepth 20000 in
theorem ggX5_passMinute_X5_tell : GoodIn wsX5_passMinute wsX5_tell := goodIn_r _ [34, 35, 36, 37, 38, 12, 39, 40, 41, 42, 43, 7, 44, 45, 46, 47, 48, 59, 60, 61, 62, 63, 64, 65, 66, 67, 55, 56, 57, 58] (by decide +kernel) (by decide +kernel)
set_option maxRecDepth 20000 in
theorem gX5_passMinute_X5_tell : GoodIn wsX5_passMinute (wsV RX5 51 RX5 yX5_tell wsX5_tell) := goodIn_app (goodIn_of _ (by decide +kernel)) ggX5_passMinute_X5_tell
set_option maxRecDepth 20000 in
theorem ggX5_passMinute_X5_walk : GoodIn wsX5_passMinute wsX5_walk := goodIn_r _ [52, 48, 53, 54, 59, 60, 61, 62, 63, 64, 65, 66, 67] (by decide +kernel) (by decide +kernel)
set_option maxRecDepth 20000 in
theorem gX5_passMinute_X5_walk : GoodIn wsX5_passMinute (wsV RX5 61 RX5 yX5_walk wsX5_walk) := goodIn_app (goodIn_of _ (by decide +kernel)) ggX5_passMinute_X5_walk
theorem dX5_passMinute_0 : decode cX5_passMinute 0 = .ok (.aload_n 1, 1) := by decide +kernel
theorem dX5_passMinute_1 : decode cX5_passMinute 1 = .ok (.getfield 55, 3) := by decide +kernel
theorem dX5_passMinute_4 : decode cX5_passMinute 4 = .ok (.iconst 1, 1) := by decide +kernel
theorem dX5_passMinute_5 : decode cX5_passMinute 5 = .ok (.isub, 1) := by decide +kernel
theorem dX5_passMinute_6 : decode cX5_passMinute 6 = .ok (.istore_n 2, 1) := by decide +kernel
theorem dX5_passMinute_7 : decode cX5_passMinute 7 = .ok (.iload_n 2, 1) := by decide +kernel
theorem dX5_passMinute_8 : decode cX5_passMinute 8 = .ok (.ifCond .le 48, 3) := by decide +kernel
theorem dX5_passMinute_11 : decode cX5_passMinute 11 = .ok (.aload_n 0, 1) := by decide +kernel
theorem dX5_passMinute_12 : decode cX5_passMinute 12 = .ok (.getfield 18, 3) := by decide +kernel
theorem dX5_passMinute_15 : decode cX5_passMinute 15 = .ok (.iload_n 2, 1) := by decide +kernel
theorem dX5_passMinute_16 : decode cX5_passMinute 16 = .ok (.iconst 1, 1) := by decide +kernel
theorem dX5_passMinute_17 : decode cX5_passMinute 17 = .ok (.isub, 1) := by decide +kernel
theorem dX5_passMinute_18 : decode cX5_passMinute 18 = .ok (.iaload, 1) := by decide +kernel
theorem dX5_passMinute_19 : decode cX5_passMinute 19 = .ok (.istore_n 3, 1) := by decide +kernel
theorem dX5_passMinute_20 : decode cX5_passMinute 20 = .ok (.aload_n 0, 1) := by decide +kernel
theorem dX5_passMinute_21 : decode cX5_passMinute 21 = .ok (.getfield 18, 3) := by decide +kernel
theorem dX5_passMinute_24 : decode cX5_passMinute 24 = .ok (.iload_n 2, 1) := by decide +kernel
theorem dX5_passMinute_25 : decode cX5_passMinute 25 = .ok (.iload_n 3, 1) := by decide +kernel
theorem dX5_passMinute_26 : decode cX5_passMinute 26 = .ok (.bipush (-9), 2) := by decide +kernel
theorem dX5_passMinute_28 : decode cX5_passMinute 28 = .ok (.if_icmp .ne 8, 3) := by decide +kernel
theorem dX5_passMinute_31 : decode cX5_passMinute 31 = .ok (.bipush (-9), 2) := by decide +kernel
theorem dX5_passMinute_33 : decode cX5_passMinute 33 = .ok (.goto 16, 3) := by decide +kernel
theorem dX5_passMinute_36 : decode cX5_passMinute 36 = .ok (.aload_n 0, 1) := by decide +kernel
theorem dX5_passMinute_37 : decode cX5_passMinute 37 = .ok (.aload_n 1, 1) := by decide +kernel
theorem dX5_passMinute_38 : decode cX5_passMinute 38 = .ok (.iload_n 2, 1) := by decide +kernel
theorem dX5_passMinute_39 : decode cX5_passMinute 39 = .ok (.aload_n 0, 1) := by decide +kernel
theorem dX5_passMinute_40 : decode cX5_passMinute 40 = .ok (.aload_n 1, 1) := by decide +kernel
theorem dX5_passMinute_41 : decode cX5_passMinute 41 = .ok (.iload_n 2, 1) := by decide +kernel
theorem dX5_passMinute_42 : decode cX5_passMinute 42 = .ok (.iload_n 3, 1) := by decide +kernel
theorem dX5_passMinute_43 : decode cX5_passMinute 43 = .ok (.invokevirtual 58, 3) := by decide +kernel
theorem dX5_passMinute_46 : decode cX5_passMinute 46 = .ok (.invokevirtual 51, 3) := by decide +kernel
theorem dX5_passMinute_49 : decode cX5_passMinute 49 = .ok (.iastore, 1) := by decide +kernel
theorem dX5_passMinute_50 : decode cX5_passMinute 50 = .ok (.iinc 2 (-1), 3) := by decide +kernel
theorem dX5_passMinute_53 : decode cX5_passMinute 53 = .ok (.goto (-46), 3) := by decide +kernel
theorem dX5_passMinute_56 : decode cX5_passMinute 56 = .ok (.aload_n 0, 1) := by decide +kernel
theorem dX5_passMinute_57 : decode cX5_passMinute 57 = .ok (.getfield 18, 3) := by decide +kernel
theorem dX5_passMinute_60 : decode cX5_passMinute 60 = .ok (.iconst 0, 1) := by decide +kernel
theorem dX5_passMinute_61 : decode cX5_passMinute 61 = .ok (.bipush (-9), 2) := by decide +kernel
theorem dX5_passMinute_63 : decode cX5_passMinute 63 = .ok (.iastore, 1) := by decide +kernel
theorem dX5_passMinute_64 : decode cX5_passMinute 64 = .ok (.aload_n 0, 1) := by decide +kernel
theorem dX5_passMinute_65 : decode cX5_passMinute 65 = .ok (.dup, 1) := by decide +kernel
theorem dX5_passMinute_66 : decode cX5_passMinute 66 = .ok (.getfield 34, 3) := by decide +kernel
theorem dX5_passMinute_69 : decode cX5_passMinute 69 = .ok (.iconst 1, 1) := by decide +kernel
theorem dX5_passMinute_70 : decode cX5_passMinute 70 = .ok (.iadd, 1) := by decide +kernel
theorem dX5_passMinute_71 : decode cX5_passMinute 71 = .ok (.putfield 34, 3) := by decide +kernel
theorem dX5_passMinute_74 : decode cX5_passMinute 74 = .ok (.iconst 0, 1) := by decide +kernel
theorem dX5_passMinute_75 : decode cX5_passMinute 75 = .ok (.istore_n 2, 1) := by decide +kernel
theorem dX5_passMinute_76 : decode cX5_passMinute 76 = .ok (.iload_n 2, 1) := by decide +kernel
theorem dX5_passMinute_77 : decode cX5_passMinute 77 = .ok (.aload_n 1, 1) := by decide +kernel
theorem dX5_passMinute_78 : decode cX5_passMinute 78 = .ok (.getfield 55, 3) := by decide +kernel
theorem dX5_passMinute_81 : decode cX5_passMinute 81 = .ok (.if_icmp .ge 14, 3) := by decide +kernel
theorem dX5_passMinute_84 : decode cX5_passMinute 84 = .ok (.aload_n 0, 1) := by decide +kernel
theorem dX5_passMinute_85 : decode cX5_passMinute 85 = .ok (.iload_n 2, 1) := by decide +kernel
theorem dX5_passMinute_86 : decode cX5_passMinute 86 = .ok (.invokevirtual 61, 3) := by decide +kernel
theorem dX5_passMinute_89 : decode cX5_passMinute 89 = .ok (.iinc 2 1, 3) := by decide +kernel
theorem dX5_passMinute_92 : decode cX5_passMinute 92 = .ok (.goto (-16), 3) := by decide +kernel
theorem dX5_passMinute_95 : decode cX5_passMinute 95 = .ok (.return_, 1) := by decide +kernel
set_option maxRecDepth 20000 in
theorem ggX5_blowBugle_X5_take : GoodIn wsX5_blowBugle wsX5_take := goodIn_r _ [7, 8, 9, 10, 11, 16, 17, 18, 19, 20, 21, 22, 23, 24, 12, 13, 14, 15] (by decide +kernel) (by decide +kernel)
set_option maxRecDepth 20000 in
theorem gX5_blowBugle_X5_take : GoodIn wsX5_blowBugle (wsV RX5 65 RX5 yX5_take wsX5_take) := goodIn_app (goodIn_of _ (by decide +kernel)) ggX5_blowBugle_X5_take
theorem dX5_blowBugle_0 : decode cX5_blowBugle 0 = .ok (.iconst 0, 1) := by decide +kernel
theorem dX5_blowBugle_1 : decode cX5_blowBugle 1 = .ok (.istore_n 2, 1) := by decide +kernel
theorem dX5_blowBugle_2 : decode cX5_blowBugle 2 = .ok (.iconst 0, 1) := by decide +kernel
theorem dX5_blowBugle_3 : decode cX5_blowBugle 3 = .ok (.istore_n 3, 1) := by decide +kernel
theorem dX5_blowBugle_4 : decode cX5_blowBugle 4 = .ok (.iload_n 3, 1) := by decide +kernel
theorem dX5_blowBugle_5 : decode cX5_blowBugle 5 = .ok (.aload_n 1, 1) := by decide +kernel
theorem dX5_blowBugle_6 : decode cX5_blowBugle 6 = .ok (.getfield 55, 3) := by decide +kernel
theorem dX5_blowBugle_9 : decode cX5_blowBugle 9 = .ok (.if_icmp .ge 28, 3) := by decide +kernel
theorem dX5_blowBugle_12 : decode cX5_blowBugle 12 = .ok (.aload_n 0, 1) := by decide +kernel
theorem dX5_blowBugle_13 : decode cX5_blowBugle 13 = .ok (.getfield 30, 3) := by decide +kernel
theorem dX5_blowBugle_16 : decode cX5_blowBugle 16 = .ok (.iload_n 3, 1) := by decide +kernel
theorem dX5_blowBugle_17 : decode cX5_blowBugle 17 = .ok (.baload, 1) := by decide +kernel
theorem dX5_blowBugle_18 : decode cX5_blowBugle 18 = .ok (.ifCond .ne 13, 3) := by decide +kernel
theorem dX5_blowBugle_21 : decode cX5_blowBugle 21 = .ok (.aload_n 0, 1) := by decide +kernel
theorem dX5_blowBugle_22 : decode cX5_blowBugle 22 = .ok (.aload_n 1, 1) := by decide +kernel
theorem dX5_blowBugle_23 : decode cX5_blowBugle 23 = .ok (.iload_n 3, 1) := by decide +kernel
theorem dX5_blowBugle_24 : decode cX5_blowBugle 24 = .ok (.iconst 0, 1) := by decide +kernel
theorem dX5_blowBugle_25 : decode cX5_blowBugle 25 = .ok (.invokevirtual 65, 3) := by decide +kernel
theorem dX5_blowBugle_28 : decode cX5_blowBugle 28 = .ok (.iinc 2 1, 3) := by decide +kernel
theorem dX5_blowBugle_31 : decode cX5_blowBugle 31 = .ok (.iinc 3 1, 3) := by decide +kernel
theorem dX5_blowBugle_34 : decode cX5_blowBugle 34 = .ok (.goto (-30), 3) := by decide +kernel
theorem dX5_blowBugle_37 : decode cX5_blowBugle 37 = .ok (.iload_n 2, 1) := by decide +kernel
theorem dX5_blowBugle_38 : decode cX5_blowBugle 38 = .ok (.ireturn, 1) := by decide +kernel
theorem dX5_sleepers_0 : decode cX5_sleepers 0 = .ok (.iconst 0, 1) := by decide +kernel
theorem dX5_sleepers_1 : decode cX5_sleepers 1 = .ok (.istore_n 2, 1) := by decide +kernel
theorem dX5_sleepers_2 : decode cX5_sleepers 2 = .ok (.iconst 0, 1) := by decide +kernel
theorem dX5_sleepers_3 : decode cX5_sleepers 3 = .ok (.istore_n 3, 1) := by decide +kernel
theorem dX5_sleepers_4 : decode cX5_sleepers 4 = .ok (.iload_n 3, 1) := by decide +kernel
theorem dX5_sleepers_5 : decode cX5_sleepers 5 = .ok (.aload_n 1, 1) := by decide +kernel
theorem dX5_sleepers_6 : decode cX5_sleepers 6 = .ok (.getfield 55, 3) := by decide +kernel
theorem dX5_sleepers_9 : decode cX5_sleepers 9 = .ok (.if_icmp .ge 28, 3) := by decide +kernel
theorem dX5_sleepers_12 : decode cX5_sleepers 12 = .ok (.iload_n 2, 1) := by decide +kernel
theorem dX5_sleepers_13 : decode cX5_sleepers 13 = .ok (.aload_n 0, 1) := by decide +kernel
theorem dX5_sleepers_14 : decode cX5_sleepers 14 = .ok (.getfield 30, 3) := by decide +kernel
theorem dX5_sleepers_17 : decode cX5_sleepers 17 = .ok (.iload_n 3, 1) := by decide +kernel
theorem dX5_sleepers_18 : decode cX5_sleepers 18 = .ok (.baload, 1) := by decide +kernel
theorem dX5_sleepers_19 : decode cX5_sleepers 19 = .ok (.ifCond .eq 9, 3) := by decide +kernel
theorem dX5_sleepers_22 : decode cX5_sleepers 22 = .ok (.iconst 1, 1) := by decide +kernel
theorem dX5_sleepers_23 : decode cX5_sleepers 23 = .ok (.iload_n 3, 1) := by decide +kernel
theorem dX5_sleepers_24 : decode cX5_sleepers 24 = .ok (.ishl, 1) := by decide +kernel
theorem dX5_sleepers_25 : decode cX5_sleepers 25 = .ok (.goto 4, 3) := by decide +kernel
theorem dX5_sleepers_28 : decode cX5_sleepers 28 = .ok (.iconst 0, 1) := by decide +kernel
theorem dX5_sleepers_29 : decode cX5_sleepers 29 = .ok (.ior, 1) := by decide +kernel
theorem dX5_sleepers_30 : decode cX5_sleepers 30 = .ok (.istore_n 2, 1) := by decide +kernel
theorem dX5_sleepers_31 : decode cX5_sleepers 31 = .ok (.iinc 3 1, 3) := by decide +kernel
theorem dX5_sleepers_34 : decode cX5_sleepers 34 = .ok (.goto (-30), 3) := by decide +kernel
theorem dX5_sleepers_37 : decode cX5_sleepers 37 = .ok (.iload_n 2, 1) := by decide +kernel
theorem dX5_sleepers_38 : decode cX5_sleepers 38 = .ok (.ireturn, 1) := by decide +kernel
theorem dX5_hearers_0 : decode cX5_hearers 0 = .ok (.iconst 0, 1) := by decide +kernel
theorem dX5_hearers_1 : decode cX5_hearers 1 = .ok (.istore_n 2, 1) := by decide +kernel
theorem dX5_hearers_2 : decode cX5_hearers 2 = .ok (.iconst 0, 1) := by decide +kernel
theorem dX5_hearers_3 : decode cX5_hearers 3 = .ok (.istore_n 3, 1) := by decide +kernel
theorem dX5_hearers_4 : decode cX5_hearers 4 = .ok (.iload_n 3, 1) := by decide +kernel
theorem dX5_hearers_5 : decode cX5_hearers 5 = .ok (.aload_n 1, 1) := by decide +kernel
theorem dX5_hearers_6 : decode cX5_hearers 6 = .ok (.getfield 55, 3) := by decide +kernel
theorem dX5_hearers_9 : decode cX5_hearers 9 = .ok (.if_icmp .ge 30, 3) := by decide +kernel
theorem dX5_hearers_12 : decode cX5_hearers 12 = .ok (.iload_n 2, 1) := by decide +kernel
theorem dX5_hearers_13 : decode cX5_hearers 13 = .ok (.aload_n 0, 1) := by decide +kernel
theorem dX5_hearers_14 : decode cX5_hearers 14 = .ok (.getfield 18, 3) := by decide +kernel
theorem dX5_hearers_17 : decode cX5_hearers 17 = .ok (.iload_n 3, 1) := by decide +kernel
theorem dX5_hearers_18 : decode cX5_hearers 18 = .ok (.iaload, 1) := by decide +kernel
theorem dX5_hearers_19 : decode cX5_hearers 19 = .ok (.bipush (-9), 2) := by decide +kernel
theorem dX5_hearers_21 : decode cX5_hearers 21 = .ok (.if_icmp .eq 9, 3) := by decide +kernel
theorem dX5_hearers_24 : decode cX5_hearers 24 = .ok (.iconst 1, 1) := by decide +kernel
theorem dX5_hearers_25 : decode cX5_hearers 25 = .ok (.iload_n 3, 1) := by decide +kernel
theorem dX5_hearers_26 : decode cX5_hearers 26 = .ok (.ishl, 1) := by decide +kernel
theorem dX5_hearers_27 : decode cX5_hearers 27 = .ok (.goto 4, 3) := by decide +kernel
theorem dX5_hearers_30 : decode cX5_hearers 30 = .ok (.iconst 0, 1) := by decide +kernel
theorem dX5_hearers_31 : decode cX5_hearers 31 = .ok (.ior, 1) := by decide +kernel
theorem dX5_hearers_32 : decode cX5_hearers 32 = .ok (.istore_n 2, 1) := by decide +kernel
theorem dX5_hearers_33 : decode cX5_hearers 33 = .ok (.iinc 3 1, 3) := by decide +kernel
theorem dX5_hearers_36 : decode cX5_hearers 36 = .ok (.goto (-32), 3) := by decide +kernel
theorem dX5_hearers_39 : decode cX5_hearers 39 = .ok (.iload_n 2, 1) := by decide +kernel
theorem dX5_hearers_40 : decode cX5_hearers 40 = .ok (.ireturn, 1) := by decide +kernel
theorem dX5_eastAndThousand_0 : decode cX5_eastAndThousand 0 = .ok (.sipush 1000, 3) := by decide +kernel
theorem dX5_eastAndThousand_3 : decode cX5_eastAndThousand 3 = .ok (.aload_n 0, 1) := by decide +kernel
theorem dX5_eastAndThousand_4 : decode cX5_eastAndThousand 4 = .ok (.getfield 24, 3) := by decide +kernel
theorem dX5_eastAndThousand_7 : decode cX5_eastAndThousand 7 = .ok (.iload_n 1, 1) := by decide +kernel
theorem dX5_eastAndThousand_8 : decode cX5_eastAndThousand 8 = .ok (.iaload, 1) := by decide +kernel
theorem dX5_eastAndThousand_9 : decode cX5_eastAndThousand 9 = .ok (.iadd, 1) := by decide +kernel
theorem dX5_eastAndThousand_10 : decode cX5_eastAndThousand 10 = .ok (.ireturn, 1) := by decide +kernel
set_option maxRecDepth 20000 in
theorem ggX5_tell_X1_hears : GoodIn wsX5_tell wsX1_hears := goodIn_r _ [6, 7, 26, 27, 28, 29] (by decide +kernel) (by decide +kernel)
set_option maxRecDepth 20000 in
theorem gX5_tell_X1_hears : GoodIn wsX5_tell (wsV RX5 69 RX1 yX1_hears wsX1_hears) := goodIn_app (goodIn_of _ (by decide +kernel)) ggX5_tell_X1_hears
set_option maxRecDepth 20000 in
theorem ggX5_tell_X5_take : GoodIn wsX5_tell wsX5_take := goodIn_r _ [12, 13, 14, 15, 16, 17, 18, 19, 20, 21, 22, 23, 24, 25, 26, 27, 28, 29] (by decide +kernel) (by decide +kernel)
set_option maxRecDepth 20000 in
theorem gX5_tell_X5_take : GoodIn wsX5_tell (wsV RX5 65 RX5 yX5_take wsX5_take) := goodIn_app (goodIn_of _ (by decide +kernel)) ggX5_tell_X5_take
theorem dX5_tell_0 : decode cX5_tell 0 = .ok (.aload_n 0, 1) := by decide +kernel
theorem dX5_tell_1 : decode cX5_tell 1 = .ok (.getfield 30, 3) := by decide +kernel
theorem dX5_tell_4 : decode cX5_tell 4 = .ok (.iload_n 2, 1) := by decide +kernel
theorem dX5_tell_5 : decode cX5_tell 5 = .ok (.baload, 1) := by decide +kernel
theorem dX5_tell_6 : decode cX5_tell 6 = .ok (.ifCond .eq 13, 3) := by decide +kernel
theorem dX5_tell_9 : decode cX5_tell 9 = .ok (.aload_n 0, 1) := by decide +kernel
theorem dX5_tell_10 : decode cX5_tell 10 = .ok (.getfield 30, 3) := by decide +kernel
theorem dX5_tell_13 : decode cX5_tell 13 = .ok (.iload_n 2, 1) := by decide +kernel
theorem dX5_tell_14 : decode cX5_tell 14 = .ok (.iconst 0, 1) := by decide +kernel
theorem dX5_tell_15 : decode cX5_tell 15 = .ok (.bastore, 1) := by decide +kernel
theorem dX5_tell_16 : decode cX5_tell 16 = .ok (.bipush (-9), 2) := by decide +kernel
theorem dX5_tell_18 : decode cX5_tell 18 = .ok (.ireturn, 1) := by decide +kernel
theorem dX5_tell_19 : decode cX5_tell 19 = .ok (.aload_n 1, 1) := by decide +kernel
theorem dX5_tell_20 : decode cX5_tell 20 = .ok (.iload_n 2, 1) := by decide +kernel
theorem dX5_tell_21 : decode cX5_tell 21 = .ok (.iload_n 3, 1) := by decide +kernel
theorem dX5_tell_22 : decode cX5_tell 22 = .ok (.invokevirtual 69, 3) := by decide +kernel
theorem dX5_tell_25 : decode cX5_tell 25 = .ok (.istore 4, 2) := by decide +kernel
theorem dX5_tell_27 : decode cX5_tell 27 = .ok (.aload_n 0, 1) := by decide +kernel
theorem dX5_tell_28 : decode cX5_tell 28 = .ok (.aload_n 1, 1) := by decide +kernel
theorem dX5_tell_29 : decode cX5_tell 29 = .ok (.iload_n 2, 1) := by decide +kernel
theorem dX5_tell_30 : decode cX5_tell 30 = .ok (.iload 4, 2) := by decide +kernel
theorem dX5_tell_32 : decode cX5_tell 32 = .ok (.invokevirtual 65, 3) := by decide +kernel
theorem dX5_tell_35 : decode cX5_tell 35 = .ok (.iload 4, 2) := by decide +kernel
theorem dX5_tell_37 : decode cX5_tell 37 = .ok (.ireturn, 1) := by decide +kernel
theorem dX5_take_0 : decode cX5_take 0 = .ok (.aload_n 0, 1) := by decide +kernel
theorem dX5_take_1 : decode cX5_take 1 = .ok (.getfield 15, 3) := by decide +kernel
theorem dX5_take_4 : decode cX5_take 4 = .ok (.iload_n 2, 1) := by decide +kernel
theorem dX5_take_5 : decode cX5_take 5 = .ok (.aload_n 0, 1) := by decide +kernel
theorem dX5_take_6 : decode cX5_take 6 = .ok (.getfield 9, 3) := by decide +kernel
theorem dX5_take_9 : decode cX5_take 9 = .ok (.iload_n 2, 1) := by decide +kernel
theorem dX5_take_10 : decode cX5_take 10 = .ok (.iaload, 1) := by decide +kernel
theorem dX5_take_11 : decode cX5_take 11 = .ok (.iastore, 1) := by decide +kernel
theorem dX5_take_12 : decode cX5_take 12 = .ok (.aload_n 0, 1) := by decide +kernel
theorem dX5_take_13 : decode cX5_take 13 = .ok (.getfield 9, 3) := by decide +kernel
theorem dX5_take_16 : decode cX5_take 16 = .ok (.iload_n 2, 1) := by decide +kernel
theorem dX5_take_17 : decode cX5_take 17 = .ok (.iload_n 3, 1) := by decide +kernel
theorem dX5_take_18 : decode cX5_take 18 = .ok (.iastore, 1) := by decide +kernel
theorem dX5_take_19 : decode cX5_take 19 = .ok (.aload_n 1, 1) := by decide +kernel
theorem dX5_take_20 : decode cX5_take 20 = .ok (.getfield 48, 3) := by decide +kernel
theorem dX5_take_23 : decode cX5_take 23 = .ok (.iload_n 2, 1) := by decide +kernel
theorem dX5_take_24 : decode cX5_take 24 = .ok (.iaload, 1) := by decide +kernel
theorem dX5_take_25 : decode cX5_take 25 = .ok (.iconst 1, 1) := by decide +kernel
theorem dX5_take_26 : decode cX5_take 26 = .ok (.if_icmp .ne 13, 3) := by decide +kernel
theorem dX5_take_29 : decode cX5_take 29 = .ok (.aload_n 0, 1) := by decide +kernel
theorem dX5_take_30 : decode cX5_take 30 = .ok (.getfield 15, 3) := by decide +kernel
theorem dX5_take_33 : decode cX5_take 33 = .ok (.iload_n 2, 1) := by decide +kernel
theorem dX5_take_34 : decode cX5_take 34 = .ok (.iaload, 1) := by decide +kernel
theorem dX5_take_35 : decode cX5_take 35 = .ok (.iload_n 3, 1) := by decide +kernel
theorem dX5_take_36 : decode cX5_take 36 = .ok (.if_icmp .ne 10, 3) := by decide +kernel
theorem dX5_take_39 : decode cX5_take 39 = .ok (.aload_n 0, 1) := by decide +kernel
theorem dX5_take_40 : decode cX5_take 40 = .ok (.getfield 21, 3) := by decide +kernel
theorem dX5_take_43 : decode cX5_take 43 = .ok (.iload_n 2, 1) := by decide +kernel
theorem dX5_take_44 : decode cX5_take 44 = .ok (.iload_n 3, 1) := by decide +kernel
theorem dX5_take_45 : decode cX5_take 45 = .ok (.iastore, 1) := by decide +kernel
theorem dX5_take_46 : decode cX5_take 46 = .ok (.return_, 1) := by decide +kernel
set_option maxRecDepth 20000 in
theorem ggX5_overTheWay_X1_slipped : GoodIn wsX5_overTheWay wsX1_slipped := goodIn_r _ [5, 6, 7, 8, 4, 9, 10, 11, 12, 13, 24, 25, 26, 27] (by decide +kernel) (by decide +kernel)
set_option maxRecDepth 20000 in
theorem gX5_overTheWay_X1_slipped : GoodIn wsX5_overTheWay (wsV RX5 73 RX1 yX1_slipped wsX1_slipped) := goodIn_app (goodIn_of _ (by decide +kernel)) ggX5_overTheWay_X1_slipped
set_option maxRecDepth 20000 in
theorem ggX5_overTheWay_X5_draw : GoodIn wsX5_overTheWay wsX5_draw := goodIn_r _ [18, 19, 20, 21, 22, 28, 29, 30, 31, 32, 33, 34, 35, 36] (by decide +kernel) (by decide +kernel)
set_option maxRecDepth 20000 in
theorem gX5_overTheWay_X5_draw : GoodIn wsX5_overTheWay (wsV RX5 76 RX5 yX5_draw wsX5_draw) := goodIn_app (goodIn_of _ (by decide +kernel)) ggX5_overTheWay_X5_draw
set_option maxRecDepth 20000 in
theorem ggX5_overTheWay_X1_slipTenths : GoodIn wsX5_overTheWay wsX1_slipTenths := goodIn_r _ [9, 10, 11, 12, 4, 13, 24, 25, 26, 27] (by decide +kernel) (by decide +kernel)
set_option maxRecDepth 20000 in
theorem gX5_overTheWay_X1_slipTenths : GoodIn wsX5_overTheWay (wsV RX5 80 RX1 yX1_slipTenths wsX1_slipTenths) := goodIn_app (goodIn_of _ (by decide +kernel)) ggX5_overTheWay_X1_slipTenths
theorem dX5_overTheWay_0 : decode cX5_overTheWay 0 = .ok (.aload_n 1, 1) := by decide +kernel
theorem dX5_overTheWay_1 : decode cX5_overTheWay 1 = .ok (.iload_n 2, 1) := by decide +kernel
theorem dX5_overTheWay_2 : decode cX5_overTheWay 2 = .ok (.iload_n 3, 1) := by decide +kernel
theorem dX5_overTheWay_3 : decode cX5_overTheWay 3 = .ok (.invokevirtual 73, 3) := by decide +kernel
theorem dX5_overTheWay_6 : decode cX5_overTheWay 6 = .ok (.ifCond .ne 5, 3) := by decide +kernel
theorem dX5_overTheWay_9 : decode cX5_overTheWay 9 = .ok (.iload_n 3, 1) := by decide +kernel
theorem dX5_overTheWay_10 : decode cX5_overTheWay 10 = .ok (.ireturn, 1) := by decide +kernel
theorem dX5_overTheWay_11 : decode cX5_overTheWay 11 = .ok (.aload_n 0, 1) := by decide +kernel
theorem dX5_overTheWay_12 : decode cX5_overTheWay 12 = .ok (.invokevirtual 76, 3) := by decide +kernel
theorem dX5_overTheWay_15 : decode cX5_overTheWay 15 = .ok (.istore 4, 2) := by decide +kernel
theorem dX5_overTheWay_17 : decode cX5_overTheWay 17 = .ok (.iconst 0, 1) := by decide +kernel
theorem dX5_overTheWay_18 : decode cX5_overTheWay 18 = .ok (.istore 5, 2) := by decide +kernel
theorem dX5_overTheWay_20 : decode cX5_overTheWay 20 = .ok (.iconst 0, 1) := by decide +kernel
theorem dX5_overTheWay_21 : decode cX5_overTheWay 21 = .ok (.istore 6, 2) := by decide +kernel
theorem dX5_overTheWay_23 : decode cX5_overTheWay 23 = .ok (.iload 6, 2) := by decide +kernel
theorem dX5_overTheWay_25 : decode cX5_overTheWay 25 = .ok (.iconst 5, 1) := by decide +kernel
theorem dX5_overTheWay_26 : decode cX5_overTheWay 26 = .ok (.if_icmp .ge 32, 3) := by decide +kernel
theorem dX5_overTheWay_29 : decode cX5_overTheWay 29 = .ok (.iload 5, 2) := by decide +kernel
theorem dX5_overTheWay_31 : decode cX5_overTheWay 31 = .ok (.aload_n 1, 1) := by decide +kernel
theorem dX5_overTheWay_32 : decode cX5_overTheWay 32 = .ok (.iload_n 2, 1) := by decide +kernel
theorem dX5_overTheWay_33 : decode cX5_overTheWay 33 = .ok (.iload_n 3, 1) := by decide +kernel
theorem dX5_overTheWay_34 : decode cX5_overTheWay 34 = .ok (.iload 6, 2) := by decide +kernel
theorem dX5_overTheWay_36 : decode cX5_overTheWay 36 = .ok (.invokevirtual 80, 3) := by decide +kernel
theorem dX5_overTheWay_39 : decode cX5_overTheWay 39 = .ok (.iadd, 1) := by decide +kernel
theorem dX5_overTheWay_40 : decode cX5_overTheWay 40 = .ok (.istore 5, 2) := by decide +kernel
theorem dX5_overTheWay_42 : decode cX5_overTheWay 42 = .ok (.iload 4, 2) := by decide +kernel
theorem dX5_overTheWay_44 : decode cX5_overTheWay 44 = .ok (.iload 5, 2) := by decide +kernel
theorem dX5_overTheWay_46 : decode cX5_overTheWay 46 = .ok (.if_icmp .ge 6, 3) := by decide +kernel
theorem dX5_overTheWay_49 : decode cX5_overTheWay 49 = .ok (.iload 6, 2) := by decide +kernel
theorem dX5_overTheWay_51 : decode cX5_overTheWay 51 = .ok (.ireturn, 1) := by decide +kernel
theorem dX5_overTheWay_52 : decode cX5_overTheWay 52 = .ok (.iinc 6 1, 3) := by decide +kernel
theorem dX5_overTheWay_55 : decode cX5_overTheWay 55 = .ok (.goto (-32), 3) := by decide +kernel
theorem dX5_overTheWay_58 : decode cX5_overTheWay 58 = .ok (.iload_n 3, 1) := by decide +kernel
theorem dX5_overTheWay_59 : decode cX5_overTheWay 59 = .ok (.ireturn, 1) := by decide +kernel
theorem dX5_draw_0 : decode cX5_draw 0 = .ok (.aload_n 0, 1) := by decide +kernel
theorem dX5_draw_1 : decode cX5_draw 1 = .ok (.aload_n 0, 1) := by decide +kernel
theorem dX5_draw_2 : decode cX5_draw 2 = .ok (.getfield 38, 3) := by decide +kernel
theorem dX5_draw_5 : decode cX5_draw 5 = .ok (.ldc2_w 84, 3) := by decide +kernel
theorem dX5_draw_8 : decode cX5_draw 8 = .ok (.lmul, 1) := by decide +kernel
theorem dX5_draw_9 : decode cX5_draw 9 = .ok (.ldc2_w 86, 3) := by decide +kernel
theorem dX5_draw_12 : decode cX5_draw 12 = .ok (.ladd, 1) := by decide +kernel
theorem dX5_draw_13 : decode cX5_draw 13 = .ok (.putfield 38, 3) := by decide +kernel
theorem dX5_draw_16 : decode cX5_draw 16 = .ok (.aload_n 0, 1) := by decide +kernel
theorem dX5_draw_17 : decode cX5_draw 17 = .ok (.getfield 38, 3) := by decide +kernel
theorem dX5_draw_20 : decode cX5_draw 20 = .ok (.bipush 33, 2) := by decide +kernel
theorem dX5_draw_22 : decode cX5_draw 22 = .ok (.lushr, 1) := by decide +kernel
theorem dX5_draw_23 : decode cX5_draw 23 = .ok (.ldc2_w 88, 3) := by decide +kernel
theorem dX5_draw_26 : decode cX5_draw 26 = .ok (.lrem, 1) := by decide +kernel
theorem dX5_draw_27 : decode cX5_draw 27 = .ok (.l2i, 1) := by decide +kernel
theorem dX5_draw_28 : decode cX5_draw 28 = .ok (.ireturn, 1) := by decide +kernel
theorem dX5_walk_0 : decode cX5_walk 0 = .ok (.aload_n 0, 1) := by decide +kernel
theorem dX5_walk_1 : decode cX5_walk 1 = .ok (.getfield 21, 3) := by decide +kernel
theorem dX5_walk_4 : decode cX5_walk 4 = .ok (.iload_n 1, 1) := by decide +kernel
theorem dX5_walk_5 : decode cX5_walk 5 = .ok (.iaload, 1) := by decide +kernel
theorem dX5_walk_6 : decode cX5_walk 6 = .ok (.iconst 1, 1) := by decide +kernel
theorem dX5_walk_7 : decode cX5_walk 7 = .ok (.if_icmp .ne 16, 3) := by decide +kernel
theorem dX5_walk_10 : decode cX5_walk 10 = .ok (.aload_n 0, 1) := by decide +kernel
theorem dX5_walk_11 : decode cX5_walk 11 = .ok (.getfield 27, 3) := by decide +kernel
theorem dX5_walk_14 : decode cX5_walk 14 = .ok (.iload_n 1, 1) := by decide +kernel
theorem dX5_walk_15 : decode cX5_walk 15 = .ok (.dup2, 1) := by decide +kernel
theorem dX5_walk_16 : decode cX5_walk 16 = .ok (.iaload, 1) := by decide +kernel
theorem dX5_walk_17 : decode cX5_walk 17 = .ok (.iconst 1, 1) := by decide +kernel
theorem dX5_walk_18 : decode cX5_walk 18 = .ok (.iadd, 1) := by decide +kernel
theorem dX5_walk_19 : decode cX5_walk 19 = .ok (.iastore, 1) := by decide +kernel
theorem dX5_walk_20 : decode cX5_walk 20 = .ok (.goto 46, 3) := by decide +kernel
theorem dX5_walk_23 : decode cX5_walk 23 = .ok (.aload_n 0, 1) := by decide +kernel
theorem dX5_walk_24 : decode cX5_walk 24 = .ok (.getfield 21, 3) := by decide +kernel
theorem dX5_walk_27 : decode cX5_walk 27 = .ok (.iload_n 1, 1) := by decide +kernel
theorem dX5_walk_28 : decode cX5_walk 28 = .ok (.iaload, 1) := by decide +kernel
theorem dX5_walk_29 : decode cX5_walk 29 = .ok (.iconst 2, 1) := by decide +kernel
theorem dX5_walk_30 : decode cX5_walk 30 = .ok (.if_icmp .ne 16, 3) := by decide +kernel
theorem dX5_walk_33 : decode cX5_walk 33 = .ok (.aload_n 0, 1) := by decide +kernel
theorem dX5_walk_34 : decode cX5_walk 34 = .ok (.getfield 24, 3) := by decide +kernel
theorem dX5_walk_37 : decode cX5_walk 37 = .ok (.iload_n 1, 1) := by decide +kernel
theorem dX5_walk_38 : decode cX5_walk 38 = .ok (.dup2, 1) := by decide +kernel
theorem dX5_walk_39 : decode cX5_walk 39 = .ok (.iaload, 1) := by decide +kernel
theorem dX5_walk_40 : decode cX5_walk 40 = .ok (.iconst 1, 1) := by decide +kernel
theorem dX5_walk_41 : decode cX5_walk 41 = .ok (.isub, 1) := by decide +kernel
theorem dX5_walk_42 : decode cX5_walk 42 = .ok (.iastore, 1) := by decide +kernel
theorem dX5_walk_43 : decode cX5_walk 43 = .ok (.goto 23, 3) := by decide +kernel
theorem dX5_walk_46 : decode cX5_walk 46 = .ok (.aload_n 0, 1) := by decide +kernel
theorem dX5_walk_47 : decode cX5_walk 47 = .ok (.getfield 21, 3) := by decide +kernel
theorem dX5_walk_50 : decode cX5_walk 50 = .ok (.iload_n 1, 1) := by decide +kernel
theorem dX5_walk_51 : decode cX5_walk 51 = .ok (.iaload, 1) := by decide +kernel
theorem dX5_walk_52 : decode cX5_walk 52 = .ok (.iconst 3, 1) := by decide +kernel
theorem dX5_walk_53 : decode cX5_walk 53 = .ok (.if_icmp .ne 13, 3) := by decide +kernel
theorem dX5_walk_56 : decode cX5_walk 56 = .ok (.aload_n 0, 1) := by decide +kernel
theorem dX5_walk_57 : decode cX5_walk 57 = .ok (.getfield 24, 3) := by decide +kernel
theorem dX5_walk_60 : decode cX5_walk 60 = .ok (.iload_n 1, 1) := by decide +kernel
theorem dX5_walk_61 : decode cX5_walk 61 = .ok (.dup2, 1) := by decide +kernel
theorem dX5_walk_62 : decode cX5_walk 62 = .ok (.iaload, 1) := by decide +kernel
theorem dX5_walk_63 : decode cX5_walk 63 = .ok (.iconst 1, 1) := by decide +kernel
theorem dX5_walk_64 : decode cX5_walk 64 = .ok (.iadd, 1) := by decide +kernel
theorem dX5_walk_65 : decode cX5_walk 65 = .ok (.iastore, 1) := by decide +kernel
theorem dX5_walk_66 : decode cX5_walk 66 = .ok (.return_, 1) := by decide +kernel
set_option maxRecDepth 20000 in
theorem ggX6_init_X5_init : GoodIn wsX6_init wsX5_init := goodIn_r _ [12, 13, 2, 3, 14, 15, 16, 17, 18, 19, 20, 6, 21, 22, 23, 26, 27, 28, 29, 30, 31, 32, 33, 34] (by decide +kernel) (by decide +kernel)
set_option maxRecDepth 20000 in
theorem gX6_init_X5_init : GoodIn wsX6_init (wsX5_init) := ggX6_init_X5_init
theorem dX6_init_0 : decode cX6_init 0 = .ok (.aload_n 0, 1) := by decide +kernel
theorem dX6_init_1 : decode cX6_init 1 = .ok (.invokespecial 3, 3) := by decide +kernel
theorem dX6_init_4 : decode cX6_init 4 = .ok (.aload_n 0, 1) := by decide +kernel
theorem dX6_init_5 : decode cX6_init 5 = .ok (.iconst 2, 1) := by decide +kernel
theorem dX6_init_6 : decode cX6_init 6 = .ok (.anewarray 9, 3) := by decide +kernel
theorem dX6_init_9 : decode cX6_init 9 = .ok (.putfield 11, 3) := by decide +kernel
theorem dX6_init_12 : decode cX6_init 12 = .ok (.aload_n 0, 1) := by decide +kernel
theorem dX6_init_13 : decode cX6_init 13 = .ok (.iconst 2, 1) := by decide +kernel
theorem dX6_init_14 : decode cX6_init 14 = .ok (.newarray .boolean, 2) := by decide +kernel
theorem dX6_init_16 : decode cX6_init 16 = .ok (.putfield 17, 3) := by decide +kernel
theorem dX6_init_19 : decode cX6_init 19 = .ok (.iconst 0, 1) := by decide +kernel
theorem dX6_init_20 : decode cX6_init 20 = .ok (.istore_n 1, 1) := by decide +kernel
theorem dX6_init_21 : decode cX6_init 21 = .ok (.iload_n 1, 1) := by decide +kernel
theorem dX6_init_22 : decode cX6_init 22 = .ok (.iconst 2, 1) := by decide +kernel
theorem dX6_init_23 : decode cX6_init 23 = .ok (.if_icmp .ge 22, 3) := by decide +kernel
theorem dX6_init_26 : decode cX6_init 26 = .ok (.aload_n 0, 1) := by decide +kernel
theorem dX6_init_27 : decode cX6_init 27 = .ok (.getfield 11, 3) := by decide +kernel
theorem dX6_init_30 : decode cX6_init 30 = .ok (.iload_n 1, 1) := by decide +kernel
theorem dX6_init_31 : decode cX6_init 31 = .ok (.new 9, 3) := by decide +kernel
theorem dX6_init_34 : decode cX6_init 34 = .ok (.dup, 1) := by decide +kernel
theorem dX6_init_35 : decode cX6_init 35 = .ok (.invokespecial 21, 3) := by decide +kernel
theorem dX6_init_38 : decode cX6_init 38 = .ok (.aastore, 1) := by decide +kernel
theorem dX6_init_39 : decode cX6_init 39 = .ok (.iinc 1 1, 3) := by decide +kernel
theorem dX6_init_42 : decode cX6_init 42 = .ok (.goto (-21), 3) := by decide +kernel
theorem dX6_init_45 : decode cX6_init 45 = .ok (.return_, 1) := by decide +kernel
theorem dX6_clear_0 : decode cX6_clear 0 = .ok (.iconst 0, 1) := by decide +kernel
theorem dX6_clear_1 : decode cX6_clear 1 = .ok (.istore_n 1, 1) := by decide +kernel
theorem dX6_clear_2 : decode cX6_clear 2 = .ok (.iload_n 1, 1) := by decide +kernel
theorem dX6_clear_3 : decode cX6_clear 3 = .ok (.iconst 2, 1) := by decide +kernel
theorem dX6_clear_4 : decode cX6_clear 4 = .ok (.if_icmp .ge 16, 3) := by decide +kernel
theorem dX6_clear_7 : decode cX6_clear 7 = .ok (.aload_n 0, 1) := by decide +kernel
theorem dX6_clear_8 : decode cX6_clear 8 = .ok (.getfield 17, 3) := by decide +kernel
theorem dX6_clear_11 : decode cX6_clear 11 = .ok (.iload_n 1, 1) := by decide +kernel
theorem dX6_clear_12 : decode cX6_clear 12 = .ok (.iconst 0, 1) := by decide +kernel
theorem dX6_clear_13 : decode cX6_clear 13 = .ok (.bastore, 1) := by decide +kernel
theorem dX6_clear_14 : decode cX6_clear 14 = .ok (.iinc 1 1, 3) := by decide +kernel
theorem dX6_clear_17 : decode cX6_clear 17 = .ok (.goto (-15), 3) := by decide +kernel
theorem dX6_clear_20 : decode cX6_clear 20 = .ok (.return_, 1) := by decide +kernel
set_option maxRecDepth 20000 in
theorem ggX6_store_X5_copyFrom : GoodIn wsX6_store wsX5_copyFrom := goodIn_r _ [7, 8, 9, 10, 11, 12, 13, 14, 15, 16, 19, 20, 21, 22, 23, 24, 25, 26, 27] (by decide +kernel) (by decide +kernel)
set_option maxRecDepth 20000 in
theorem gX6_store_X5_copyFrom : GoodIn wsX6_store (wsV RX6 22 RX5 yX5_copyFrom wsX5_copyFrom) := goodIn_app (goodIn_of _ (by decide +kernel)) ggX6_store_X5_copyFrom
theorem dX6_store_0 : decode cX6_store 0 = .ok (.aload_n 0, 1) := by decide +kernel
theorem dX6_store_1 : decode cX6_store 1 = .ok (.getfield 11, 3) := by decide +kernel
theorem dX6_store_4 : decode cX6_store 4 = .ok (.iload_n 1, 1) := by decide +kernel
theorem dX6_store_5 : decode cX6_store 5 = .ok (.aaload, 1) := by decide +kernel
theorem dX6_store_6 : decode cX6_store 6 = .ok (.aload_n 2, 1) := by decide +kernel
theorem dX6_store_7 : decode cX6_store 7 = .ok (.invokevirtual 22, 3) := by decide +kernel
theorem dX6_store_10 : decode cX6_store 10 = .ok (.aload_n 0, 1) := by decide +kernel
theorem dX6_store_11 : decode cX6_store 11 = .ok (.getfield 17, 3) := by decide +kernel
theorem dX6_store_14 : decode cX6_store 14 = .ok (.iload_n 1, 1) := by decide +kernel
theorem dX6_store_15 : decode cX6_store 15 = .ok (.iconst 1, 1) := by decide +kernel
theorem dX6_store_16 : decode cX6_store 16 = .ok (.bastore, 1) := by decide +kernel
theorem dX6_store_17 : decode cX6_store 17 = .ok (.return_, 1) := by decide +kernel
theorem dX7_init_0 : decode cX7_init 0 = .ok (.aload_n 0, 1) := by decide +kernel
theorem dX7_init_1 : decode cX7_init 1 = .ok (.invokespecial 3, 3) := by decide +kernel
theorem dX7_init_4 : decode cX7_init 4 = .ok (.aload_n 0, 1) := by decide +kernel
theorem dX7_init_5 : decode cX7_init 5 = .ok (.bipush 64, 2) := by decide +kernel
theorem dX7_init_7 : decode cX7_init 7 = .ok (.newarray .int, 2) := by decide +kernel
theorem dX7_init_9 : decode cX7_init 9 = .ok (.putfield 9, 3) := by decide +kernel
theorem dX7_init_12 : decode cX7_init 12 = .ok (.aload_n 0, 1) := by decide +kernel
theorem dX7_init_13 : decode cX7_init 13 = .ok (.iconst 0, 1) := by decide +kernel
theorem dX7_init_14 : decode cX7_init 14 = .ok (.putfield 15, 3) := by decide +kernel
theorem dX7_init_17 : decode cX7_init 17 = .ok (.return_, 1) := by decide +kernel
theorem dX7_hasRoomFor_0 : decode cX7_hasRoomFor 0 = .ok (.iload_n 1, 1) := by decide +kernel
theorem dX7_hasRoomFor_1 : decode cX7_hasRoomFor 1 = .ok (.bipush 64, 2) := by decide +kernel
theorem dX7_hasRoomFor_3 : decode cX7_hasRoomFor 3 = .ok (.aload_n 0, 1) := by decide +kernel
theorem dX7_hasRoomFor_4 : decode cX7_hasRoomFor 4 = .ok (.getfield 15, 3) := by decide +kernel
theorem dX7_hasRoomFor_7 : decode cX7_hasRoomFor 7 = .ok (.isub, 1) := by decide +kernel
theorem dX7_hasRoomFor_8 : decode cX7_hasRoomFor 8 = .ok (.if_icmp .gt 7, 3) := by decide +kernel
theorem dX7_hasRoomFor_11 : decode cX7_hasRoomFor 11 = .ok (.iconst 1, 1) := by decide +kernel
theorem dX7_hasRoomFor_12 : decode cX7_hasRoomFor 12 = .ok (.goto 4, 3) := by decide +kernel
theorem dX7_hasRoomFor_15 : decode cX7_hasRoomFor 15 = .ok (.iconst 0, 1) := by decide +kernel
theorem dX7_hasRoomFor_16 : decode cX7_hasRoomFor 16 = .ok (.ireturn, 1) := by decide +kernel
theorem dX7_append_0 : decode cX7_append 0 = .ok (.iload_n 1, 1) := by decide +kernel
theorem dX7_append_1 : decode cX7_append 1 = .ok (.iconst 1, 1) := by decide +kernel
theorem dX7_append_2 : decode cX7_append 2 = .ok (.isub, 1) := by decide +kernel
theorem dX7_append_3 : decode cX7_append 3 = .ok (.istore 4, 2) := by decide +kernel
theorem dX7_append_5 : decode cX7_append 5 = .ok (.iload 4, 2) := by decide +kernel
theorem dX7_append_7 : decode cX7_append 7 = .ok (.ifCond .lt 49, 3) := by decide +kernel
theorem dX7_append_10 : decode cX7_append 10 = .ok (.aload_n 0, 1) := by decide +kernel
theorem dX7_append_11 : decode cX7_append 11 = .ok (.getfield 15, 3) := by decide +kernel
theorem dX7_append_14 : decode cX7_append 14 = .ok (.bipush 64, 2) := by decide +kernel
theorem dX7_append_16 : decode cX7_append 16 = .ok (.if_icmp .ge 40, 3) := by decide +kernel
theorem dX7_append_19 : decode cX7_append 19 = .ok (.aload_n 0, 1) := by decide +kernel
theorem dX7_append_20 : decode cX7_append 20 = .ok (.getfield 9, 3) := by decide +kernel
theorem dX7_append_23 : decode cX7_append 23 = .ok (.aload_n 0, 1) := by decide +kernel
theorem dX7_append_24 : decode cX7_append 24 = .ok (.getfield 15, 3) := by decide +kernel
theorem dX7_append_27 : decode cX7_append 27 = .ok (.lload_n 2, 1) := by decide +kernel
theorem dX7_append_28 : decode cX7_append 28 = .ok (.bipush 8, 2) := by decide +kernel
theorem dX7_append_30 : decode cX7_append 30 = .ok (.iload 4, 2) := by decide +kernel
theorem dX7_append_32 : decode cX7_append 32 = .ok (.imul, 1) := by decide +kernel
theorem dX7_append_33 : decode cX7_append 33 = .ok (.lushr, 1) := by decide +kernel
theorem dX7_append_34 : decode cX7_append 34 = .ok (.l2i, 1) := by decide +kernel
theorem dX7_append_35 : decode cX7_append 35 = .ok (.sipush 255, 3) := by decide +kernel
theorem dX7_append_38 : decode cX7_append 38 = .ok (.iand, 1) := by decide +kernel
theorem dX7_append_39 : decode cX7_append 39 = .ok (.iastore, 1) := by decide +kernel
theorem dX7_append_40 : decode cX7_append 40 = .ok (.aload_n 0, 1) := by decide +kernel
theorem dX7_append_41 : decode cX7_append 41 = .ok (.dup, 1) := by decide +kernel
theorem dX7_append_42 : decode cX7_append 42 = .ok (.getfield 15, 3) := by decide +kernel
theorem dX7_append_45 : decode cX7_append 45 = .ok (.iconst 1, 1) := by decide +kernel
theorem dX7_append_46 : decode cX7_append 46 = .ok (.iadd, 1) := by decide +kernel
theorem dX7_append_47 : decode cX7_append 47 = .ok (.putfield 15, 3) := by decide +kernel
theorem dX7_append_50 : decode cX7_append 50 = .ok (.iinc 4 (-1), 3) := by decide +kernel
theorem dX7_append_53 : decode cX7_append 53 = .ok (.goto (-48), 3) := by decide +kernel
theorem dX7_append_56 : decode cX7_append 56 = .ok (.return_, 1) := by decide +kernel
theorem dX7_clear_0 : decode cX7_clear 0 = .ok (.aload_n 0, 1) := by decide +kernel
theorem dX7_clear_1 : decode cX7_clear 1 = .ok (.iconst 0, 1) := by decide +kernel
theorem dX7_clear_2 : decode cX7_clear 2 = .ok (.putfield 15, 3) := by decide +kernel
theorem dX7_clear_5 : decode cX7_clear 5 = .ok (.return_, 1) := by decide +kernel
theorem dX8_init_0 : decode cX8_init 0 = .ok (.aload_n 0, 1) := by decide +kernel
theorem dX8_init_1 : decode cX8_init 1 = .ok (.invokespecial 3, 3) := by decide +kernel
theorem dX8_init_4 : decode cX8_init 4 = .ok (.aload_n 0, 1) := by decide +kernel
theorem dX8_init_5 : decode cX8_init 5 = .ok (.bipush 6, 2) := by decide +kernel
theorem dX8_init_7 : decode cX8_init 7 = .ok (.newarray .int, 2) := by decide +kernel
theorem dX8_init_9 : decode cX8_init 9 = .ok (.putfield 9, 3) := by decide +kernel
theorem dX8_init_12 : decode cX8_init 12 = .ok (.aload_n 0, 1) := by decide +kernel
theorem dX8_init_13 : decode cX8_init 13 = .ok (.bipush 6, 2) := by decide +kernel
theorem dX8_init_15 : decode cX8_init 15 = .ok (.newarray .int, 2) := by decide +kernel
theorem dX8_init_17 : decode cX8_init 17 = .ok (.putfield 15, 3) := by decide +kernel
theorem dX8_init_20 : decode cX8_init 20 = .ok (.aload_n 0, 1) := by decide +kernel
theorem dX8_init_21 : decode cX8_init 21 = .ok (.bipush 6, 2) := by decide +kernel
theorem dX8_init_23 : decode cX8_init 23 = .ok (.newarray .boolean, 2) := by decide +kernel
theorem dX8_init_25 : decode cX8_init 25 = .ok (.putfield 18, 3) := by decide +kernel
theorem dX8_init_28 : decode cX8_init 28 = .ok (.aload_n 0, 1) := by decide +kernel
theorem dX8_init_29 : decode cX8_init 29 = .ok (.iconst 0, 1) := by decide +kernel
theorem dX8_init_30 : decode cX8_init 30 = .ok (.putfield 22, 3) := by decide +kernel
theorem dX8_init_33 : decode cX8_init 33 = .ok (.return_, 1) := by decide +kernel
theorem dX8_clear_0 : decode cX8_clear 0 = .ok (.aload_n 0, 1) := by decide +kernel
theorem dX8_clear_1 : decode cX8_clear 1 = .ok (.iconst 0, 1) := by decide +kernel
theorem dX8_clear_2 : decode cX8_clear 2 = .ok (.putfield 22, 3) := by decide +kernel
theorem dX8_clear_5 : decode cX8_clear 5 = .ok (.return_, 1) := by decide +kernel
theorem dX8_add_0 : decode cX8_add 0 = .ok (.aload_n 0, 1) := by decide +kernel
theorem dX8_add_1 : decode cX8_add 1 = .ok (.getfield 22, 3) := by decide +kernel
theorem dX8_add_4 : decode cX8_add 4 = .ok (.bipush 6, 2) := by decide +kernel
theorem dX8_add_6 : decode cX8_add 6 = .ok (.if_icmp .ge 43, 3) := by decide +kernel
theorem dX8_add_9 : decode cX8_add 9 = .ok (.aload_n 0, 1) := by decide +kernel
theorem dX8_add_10 : decode cX8_add 10 = .ok (.getfield 9, 3) := by decide +kernel
theorem dX8_add_13 : decode cX8_add 13 = .ok (.aload_n 0, 1) := by decide +kernel
theorem dX8_add_14 : decode cX8_add 14 = .ok (.getfield 22, 3) := by decide +kernel
theorem dX8_add_17 : decode cX8_add 17 = .ok (.iload_n 1, 1) := by decide +kernel
theorem dX8_add_18 : decode cX8_add 18 = .ok (.iastore, 1) := by decide +kernel
theorem dX8_add_19 : decode cX8_add 19 = .ok (.aload_n 0, 1) := by decide +kernel
theorem dX8_add_20 : decode cX8_add 20 = .ok (.getfield 15, 3) := by decide +kernel
theorem dX8_add_23 : decode cX8_add 23 = .ok (.aload_n 0, 1) := by decide +kernel
theorem dX8_add_24 : decode cX8_add 24 = .ok (.getfield 22, 3) := by decide +kernel
theorem dX8_add_27 : decode cX8_add 27 = .ok (.iload_n 2, 1) := by decide +kernel
theorem dX8_add_28 : decode cX8_add 28 = .ok (.iastore, 1) := by decide +kernel
theorem dX8_add_29 : decode cX8_add 29 = .ok (.aload_n 0, 1) := by decide +kernel
theorem dX8_add_30 : decode cX8_add 30 = .ok (.getfield 18, 3) := by decide +kernel
theorem dX8_add_33 : decode cX8_add 33 = .ok (.aload_n 0, 1) := by decide +kernel
theorem dX8_add_34 : decode cX8_add 34 = .ok (.getfield 22, 3) := by decide +kernel
theorem dX8_add_37 : decode cX8_add 37 = .ok (.iload_n 3, 1) := by decide +kernel
theorem dX8_add_38 : decode cX8_add 38 = .ok (.bastore, 1) := by decide +kernel
theorem dX8_add_39 : decode cX8_add 39 = .ok (.aload_n 0, 1) := by decide +kernel
theorem dX8_add_40 : decode cX8_add 40 = .ok (.dup, 1) := by decide +kernel
theorem dX8_add_41 : decode cX8_add 41 = .ok (.getfield 22, 3) := by decide +kernel
theorem dX8_add_44 : decode cX8_add 44 = .ok (.iconst 1, 1) := by decide +kernel
theorem dX8_add_45 : decode cX8_add 45 = .ok (.iadd, 1) := by decide +kernel
theorem dX8_add_46 : decode cX8_add 46 = .ok (.putfield 22, 3) := by decide +kernel
theorem dX8_add_49 : decode cX8_add 49 = .ok (.return_, 1) := by decide +kernel
theorem dX8_allow_0 : decode cX8_allow 0 = .ok (.iconst 0, 1) := by decide +kernel
theorem dX8_allow_1 : decode cX8_allow 1 = .ok (.istore_n 3, 1) := by decide +kernel
theorem dX8_allow_2 : decode cX8_allow 2 = .ok (.iload_n 3, 1) := by decide +kernel
theorem dX8_allow_3 : decode cX8_allow 3 = .ok (.aload_n 0, 1) := by decide +kernel
theorem dX8_allow_4 : decode cX8_allow 4 = .ok (.getfield 22, 3) := by decide +kernel
theorem dX8_allow_7 : decode cX8_allow 7 = .ok (.if_icmp .ge 45, 3) := by decide +kernel
theorem dX8_allow_10 : decode cX8_allow 10 = .ok (.aload_n 0, 1) := by decide +kernel
theorem dX8_allow_11 : decode cX8_allow 11 = .ok (.getfield 9, 3) := by decide +kernel
theorem dX8_allow_14 : decode cX8_allow 14 = .ok (.iload_n 3, 1) := by decide +kernel
theorem dX8_allow_15 : decode cX8_allow 15 = .ok (.iaload, 1) := by decide +kernel
theorem dX8_allow_16 : decode cX8_allow 16 = .ok (.iload_n 1, 1) := by decide +kernel
theorem dX8_allow_17 : decode cX8_allow 17 = .ok (.if_icmp .ne 29, 3) := by decide +kernel
theorem dX8_allow_20 : decode cX8_allow 20 = .ok (.aload_n 0, 1) := by decide +kernel
theorem dX8_allow_21 : decode cX8_allow 21 = .ok (.getfield 15, 3) := by decide +kernel
theorem dX8_allow_24 : decode cX8_allow 24 = .ok (.iload_n 3, 1) := by decide +kernel
theorem dX8_allow_25 : decode cX8_allow 25 = .ok (.iaload, 1) := by decide +kernel
theorem dX8_allow_26 : decode cX8_allow 26 = .ok (.iload_n 2, 1) := by decide +kernel
theorem dX8_allow_27 : decode cX8_allow 27 = .ok (.if_icmp .ne 7, 3) := by decide +kernel
theorem dX8_allow_30 : decode cX8_allow 30 = .ok (.iconst 1, 1) := by decide +kernel
theorem dX8_allow_31 : decode cX8_allow 31 = .ok (.goto 4, 3) := by decide +kernel
theorem dX8_allow_34 : decode cX8_allow 34 = .ok (.iconst 0, 1) := by decide +kernel
theorem dX8_allow_35 : decode cX8_allow 35 = .ok (.aload_n 0, 1) := by decide +kernel
theorem dX8_allow_36 : decode cX8_allow 36 = .ok (.getfield 18, 3) := by decide +kernel
theorem dX8_allow_39 : decode cX8_allow 39 = .ok (.iload_n 3, 1) := by decide +kernel
theorem dX8_allow_40 : decode cX8_allow 40 = .ok (.baload, 1) := by decide +kernel
theorem dX8_allow_41 : decode cX8_allow 41 = .ok (.if_icmp .eq 5, 3) := by decide +kernel
theorem dX8_allow_44 : decode cX8_allow 44 = .ok (.iconst 0, 1) := by decide +kernel
theorem dX8_allow_45 : decode cX8_allow 45 = .ok (.ireturn, 1) := by decide +kernel
theorem dX8_allow_46 : decode cX8_allow 46 = .ok (.iinc 3 1, 3) := by decide +kernel
theorem dX8_allow_49 : decode cX8_allow 49 = .ok (.goto (-47), 3) := by decide +kernel
theorem dX8_allow_52 : decode cX8_allow 52 = .ok (.iconst 1, 1) := by decide +kernel
theorem dX8_allow_53 : decode cX8_allow 53 = .ok (.ireturn, 1) := by decide +kernel
theorem dJ6_bitCount_0f7a4_0 : decode cJ6_bitCount_0f7a4 0 = .ok (.iload_n 0, 1) := by decide +kernel
theorem dJ6_bitCount_0f7a4_1 : decode cJ6_bitCount_0f7a4 1 = .ok (.iload_n 0, 1) := by decide +kernel
theorem dJ6_bitCount_0f7a4_2 : decode cJ6_bitCount_0f7a4 2 = .ok (.iconst 1, 1) := by decide +kernel
theorem dJ6_bitCount_0f7a4_3 : decode cJ6_bitCount_0f7a4 3 = .ok (.iushr, 1) := by decide +kernel
theorem dJ6_bitCount_0f7a4_4 : decode cJ6_bitCount_0f7a4 4 = .ok (.ldc_w 265, 3) := by decide +kernel
theorem dJ6_bitCount_0f7a4_7 : decode cJ6_bitCount_0f7a4 7 = .ok (.iand, 1) := by decide +kernel
theorem dJ6_bitCount_0f7a4_8 : decode cJ6_bitCount_0f7a4 8 = .ok (.isub, 1) := by decide +kernel
theorem dJ6_bitCount_0f7a4_9 : decode cJ6_bitCount_0f7a4 9 = .ok (.istore_n 0, 1) := by decide +kernel
theorem dJ6_bitCount_0f7a4_10 : decode cJ6_bitCount_0f7a4 10 = .ok (.iload_n 0, 1) := by decide +kernel
theorem dJ6_bitCount_0f7a4_11 : decode cJ6_bitCount_0f7a4 11 = .ok (.ldc_w 266, 3) := by decide +kernel
theorem dJ6_bitCount_0f7a4_14 : decode cJ6_bitCount_0f7a4 14 = .ok (.iand, 1) := by decide +kernel
theorem dJ6_bitCount_0f7a4_15 : decode cJ6_bitCount_0f7a4 15 = .ok (.iload_n 0, 1) := by decide +kernel
theorem dJ6_bitCount_0f7a4_16 : decode cJ6_bitCount_0f7a4 16 = .ok (.iconst 2, 1) := by decide +kernel
theorem dJ6_bitCount_0f7a4_17 : decode cJ6_bitCount_0f7a4 17 = .ok (.iushr, 1) := by decide +kernel
theorem dJ6_bitCount_0f7a4_18 : decode cJ6_bitCount_0f7a4 18 = .ok (.ldc_w 266, 3) := by decide +kernel
theorem dJ6_bitCount_0f7a4_21 : decode cJ6_bitCount_0f7a4 21 = .ok (.iand, 1) := by decide +kernel
theorem dJ6_bitCount_0f7a4_22 : decode cJ6_bitCount_0f7a4 22 = .ok (.iadd, 1) := by decide +kernel
theorem dJ6_bitCount_0f7a4_23 : decode cJ6_bitCount_0f7a4 23 = .ok (.istore_n 0, 1) := by decide +kernel
theorem dJ6_bitCount_0f7a4_24 : decode cJ6_bitCount_0f7a4 24 = .ok (.iload_n 0, 1) := by decide +kernel
theorem dJ6_bitCount_0f7a4_25 : decode cJ6_bitCount_0f7a4 25 = .ok (.iload_n 0, 1) := by decide +kernel
theorem dJ6_bitCount_0f7a4_26 : decode cJ6_bitCount_0f7a4 26 = .ok (.iconst 4, 1) := by decide +kernel
theorem dJ6_bitCount_0f7a4_27 : decode cJ6_bitCount_0f7a4 27 = .ok (.iushr, 1) := by decide +kernel
theorem dJ6_bitCount_0f7a4_28 : decode cJ6_bitCount_0f7a4 28 = .ok (.iadd, 1) := by decide +kernel
theorem dJ6_bitCount_0f7a4_29 : decode cJ6_bitCount_0f7a4 29 = .ok (.ldc_w 267, 3) := by decide +kernel
theorem dJ6_bitCount_0f7a4_32 : decode cJ6_bitCount_0f7a4 32 = .ok (.iand, 1) := by decide +kernel
theorem dJ6_bitCount_0f7a4_33 : decode cJ6_bitCount_0f7a4 33 = .ok (.istore_n 0, 1) := by decide +kernel
theorem dJ6_bitCount_0f7a4_34 : decode cJ6_bitCount_0f7a4 34 = .ok (.iload_n 0, 1) := by decide +kernel
theorem dJ6_bitCount_0f7a4_35 : decode cJ6_bitCount_0f7a4 35 = .ok (.iload_n 0, 1) := by decide +kernel
theorem dJ6_bitCount_0f7a4_36 : decode cJ6_bitCount_0f7a4 36 = .ok (.bipush 8, 2) := by decide +kernel
theorem dJ6_bitCount_0f7a4_38 : decode cJ6_bitCount_0f7a4 38 = .ok (.iushr, 1) := by decide +kernel
theorem dJ6_bitCount_0f7a4_39 : decode cJ6_bitCount_0f7a4 39 = .ok (.iadd, 1) := by decide +kernel
theorem dJ6_bitCount_0f7a4_40 : decode cJ6_bitCount_0f7a4 40 = .ok (.istore_n 0, 1) := by decide +kernel
theorem dJ6_bitCount_0f7a4_41 : decode cJ6_bitCount_0f7a4 41 = .ok (.iload_n 0, 1) := by decide +kernel
theorem dJ6_bitCount_0f7a4_42 : decode cJ6_bitCount_0f7a4 42 = .ok (.iload_n 0, 1) := by decide +kernel
theorem dJ6_bitCount_0f7a4_43 : decode cJ6_bitCount_0f7a4 43 = .ok (.bipush 16, 2) := by decide +kernel
theorem dJ6_bitCount_0f7a4_45 : decode cJ6_bitCount_0f7a4 45 = .ok (.iushr, 1) := by decide +kernel
theorem dJ6_bitCount_0f7a4_46 : decode cJ6_bitCount_0f7a4 46 = .ok (.iadd, 1) := by decide +kernel
theorem dJ6_bitCount_0f7a4_47 : decode cJ6_bitCount_0f7a4 47 = .ok (.istore_n 0, 1) := by decide +kernel
theorem dJ6_bitCount_0f7a4_48 : decode cJ6_bitCount_0f7a4 48 = .ok (.iload_n 0, 1) := by decide +kernel
theorem dJ6_bitCount_0f7a4_49 : decode cJ6_bitCount_0f7a4 49 = .ok (.bipush 63, 2) := by decide +kernel
theorem dJ6_bitCount_0f7a4_51 : decode cJ6_bitCount_0f7a4 51 = .ok (.iand, 1) := by decide +kernel
theorem dJ6_bitCount_0f7a4_52 : decode cJ6_bitCount_0f7a4 52 = .ok (.ireturn, 1) := by decide +kernel
