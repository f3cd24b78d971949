theorem dX0_init_0 : decode cX0_init 0 = .ok (.aload_n 0, 1) := by decide +kernel
theorem dX0_init_1 : decode cX0_init 1 = .ok (.invokespecial 1, 3) := by decide +kernel
theorem dX0_init_4 : decode cX0_init 4 = .ok (.return_, 1) := by decide +kernel
theorem dX0_begin_0 : decode cX0_begin 0 = .ok (.aload_n 0, 1) := by decide +kernel
theorem dX0_begin_1 : decode cX0_begin 1 = .ok (.iload_n 1, 1) := by decide +kernel
theorem dX0_begin_2 : decode cX0_begin 2 = .ok (.putfield 7, 3) := by decide +kernel
theorem dX0_begin_5 : decode cX0_begin 5 = .ok (.aload_n 0, 1) := by decide +kernel
theorem dX0_begin_6 : decode cX0_begin 6 = .ok (.iconst 0, 1) := by decide +kernel
theorem dX0_begin_7 : decode cX0_begin 7 = .ok (.putfield 13, 3) := by decide +kernel
theorem dX0_begin_10 : decode cX0_begin 10 = .ok (.aload_n 0, 1) := by decide +kernel
theorem dX0_begin_11 : decode cX0_begin 11 = .ok (.iconst 0, 1) := by decide +kernel
theorem dX0_begin_12 : decode cX0_begin 12 = .ok (.putfield 16, 3) := by decide +kernel
theorem dX0_begin_15 : decode cX0_begin 15 = .ok (.aload_n 0, 1) := by decide +kernel
theorem dX0_begin_16 : decode cX0_begin 16 = .ok (.iconst 0, 1) := by decide +kernel
theorem dX0_begin_17 : decode cX0_begin 17 = .ok (.putfield 19, 3) := by decide +kernel
theorem dX0_begin_20 : decode cX0_begin 20 = .ok (.aload_n 0, 1) := by decide +kernel
theorem dX0_begin_21 : decode cX0_begin 21 = .ok (.iconst 0, 1) := by decide +kernel
theorem dX0_begin_22 : decode cX0_begin 22 = .ok (.putfield 22, 3) := by decide +kernel
theorem dX0_begin_25 : decode cX0_begin 25 = .ok (.aload_n 0, 1) := by decide +kernel
theorem dX0_begin_26 : decode cX0_begin 26 = .ok (.iconst 0, 1) := by decide +kernel
theorem dX0_begin_27 : decode cX0_begin 27 = .ok (.putfield 25, 3) := by decide +kernel
theorem dX0_begin_30 : decode cX0_begin 30 = .ok (.aload_n 0, 1) := by decide +kernel
theorem dX0_begin_31 : decode cX0_begin 31 = .ok (.iconst 0, 1) := by decide +kernel
theorem dX0_begin_32 : decode cX0_begin 32 = .ok (.putfield 28, 3) := by decide +kernel
theorem dX0_begin_35 : decode cX0_begin 35 = .ok (.return_, 1) := by decide +kernel
theorem dX0_copyFrom_0 : decode cX0_copyFrom 0 = .ok (.aload_n 0, 1) := by decide +kernel
theorem dX0_copyFrom_1 : decode cX0_copyFrom 1 = .ok (.aload_n 1, 1) := by decide +kernel
theorem dX0_copyFrom_2 : decode cX0_copyFrom 2 = .ok (.getfield 7, 3) := by decide +kernel
theorem dX0_copyFrom_5 : decode cX0_copyFrom 5 = .ok (.putfield 7, 3) := by decide +kernel
theorem dX0_copyFrom_8 : decode cX0_copyFrom 8 = .ok (.aload_n 0, 1) := by decide +kernel
theorem dX0_copyFrom_9 : decode cX0_copyFrom 9 = .ok (.aload_n 1, 1) := by decide +kernel
theorem dX0_copyFrom_10 : decode cX0_copyFrom 10 = .ok (.getfield 13, 3) := by decide +kernel
theorem dX0_copyFrom_13 : decode cX0_copyFrom 13 = .ok (.putfield 13, 3) := by decide +kernel
theorem dX0_copyFrom_16 : decode cX0_copyFrom 16 = .ok (.aload_n 0, 1) := by decide +kernel
theorem dX0_copyFrom_17 : decode cX0_copyFrom 17 = .ok (.aload_n 1, 1) := by decide +kernel
theorem dX0_copyFrom_18 : decode cX0_copyFrom 18 = .ok (.getfield 16, 3) := by decide +kernel
theorem dX0_copyFrom_21 : decode cX0_copyFrom 21 = .ok (.putfield 16, 3) := by decide +kernel
theorem dX0_copyFrom_24 : decode cX0_copyFrom 24 = .ok (.aload_n 0, 1) := by decide +kernel
theorem dX0_copyFrom_25 : decode cX0_copyFrom 25 = .ok (.aload_n 1, 1) := by decide +kernel
theorem dX0_copyFrom_26 : decode cX0_copyFrom 26 = .ok (.getfield 19, 3) := by decide +kernel
theorem dX0_copyFrom_29 : decode cX0_copyFrom 29 = .ok (.putfield 19, 3) := by decide +kernel
theorem dX0_copyFrom_32 : decode cX0_copyFrom 32 = .ok (.aload_n 0, 1) := by decide +kernel
theorem dX0_copyFrom_33 : decode cX0_copyFrom 33 = .ok (.aload_n 1, 1) := by decide +kernel
theorem dX0_copyFrom_34 : decode cX0_copyFrom 34 = .ok (.getfield 22, 3) := by decide +kernel
theorem dX0_copyFrom_37 : decode cX0_copyFrom 37 = .ok (.putfield 22, 3) := by decide +kernel
theorem dX0_copyFrom_40 : decode cX0_copyFrom 40 = .ok (.aload_n 0, 1) := by decide +kernel
theorem dX0_copyFrom_41 : decode cX0_copyFrom 41 = .ok (.aload_n 1, 1) := by decide +kernel
theorem dX0_copyFrom_42 : decode cX0_copyFrom 42 = .ok (.getfield 25, 3) := by decide +kernel
theorem dX0_copyFrom_45 : decode cX0_copyFrom 45 = .ok (.putfield 25, 3) := by decide +kernel
theorem dX0_copyFrom_48 : decode cX0_copyFrom 48 = .ok (.aload_n 0, 1) := by decide +kernel
theorem dX0_copyFrom_49 : decode cX0_copyFrom 49 = .ok (.aload_n 1, 1) := by decide +kernel
theorem dX0_copyFrom_50 : decode cX0_copyFrom 50 = .ok (.getfield 28, 3) := by decide +kernel
theorem dX0_copyFrom_53 : decode cX0_copyFrom 53 = .ok (.putfield 28, 3) := by decide +kernel
theorem dX0_copyFrom_56 : decode cX0_copyFrom 56 = .ok (.return_, 1) := by decide +kernel
set_option maxRecDepth 20000 in
theorem ggX1_init_X1_startAnew : GoodIn wsX1_init wsX1_startAnew := goodIn_r _ [11, 12, 13, 14, 15, 16, 17, 18, 19, 20, 21, 22, 23, 24, 25, 26, 27, 28, 29, 30, 31] (by decide +kernel) (by decide +kernel)
set_option maxRecDepth 20000 in
theorem gX1_init_X1_startAnew : GoodIn wsX1_init (wsV RX1 18 RX1 yX1_startAnew wsX1_startAnew) := goodIn_app (goodIn_of _ (by decide +kernel)) ggX1_init_X1_startAnew
theorem dX1_init_0 : decode cX1_init 0 = .ok (.aload_n 0, 1) := by decide +kernel
theorem dX1_init_1 : decode cX1_init 1 = .ok (.invokespecial 3, 3) := by decide +kernel
theorem dX1_init_4 : decode cX1_init 4 = .ok (.aload_n 0, 1) := by decide +kernel
theorem dX1_init_5 : decode cX1_init 5 = .ok (.iconst 4, 1) := by decide +kernel
theorem dX1_init_6 : decode cX1_init 6 = .ok (.newarray .int, 2) := by decide +kernel
theorem dX1_init_8 : decode cX1_init 8 = .ok (.putfield 9, 3) := by decide +kernel
theorem dX1_init_11 : decode cX1_init 11 = .ok (.aload_n 0, 1) := by decide +kernel
theorem dX1_init_12 : decode cX1_init 12 = .ok (.iconst 2, 1) := by decide +kernel
theorem dX1_init_13 : decode cX1_init 13 = .ok (.newarray .int, 2) := by decide +kernel
theorem dX1_init_15 : decode cX1_init 15 = .ok (.putfield 15, 3) := by decide +kernel
theorem dX1_init_18 : decode cX1_init 18 = .ok (.aload_n 0, 1) := by decide +kernel
theorem dX1_init_19 : decode cX1_init 19 = .ok (.invokevirtual 18, 3) := by decide +kernel
theorem dX1_init_22 : decode cX1_init 22 = .ok (.return_, 1) := by decide +kernel
theorem dX1_startAnew_0 : decode cX1_startAnew 0 = .ok (.aload_n 0, 1) := by decide +kernel
theorem dX1_startAnew_1 : decode cX1_startAnew 1 = .ok (.iconst 0, 1) := by decide +kernel
theorem dX1_startAnew_2 : decode cX1_startAnew 2 = .ok (.putfield 21, 3) := by decide +kernel
theorem dX1_startAnew_5 : decode cX1_startAnew 5 = .ok (.aload_n 0, 1) := by decide +kernel
theorem dX1_startAnew_6 : decode cX1_startAnew 6 = .ok (.iconst 0, 1) := by decide +kernel
theorem dX1_startAnew_7 : decode cX1_startAnew 7 = .ok (.putfield 25, 3) := by decide +kernel
theorem dX1_startAnew_10 : decode cX1_startAnew 10 = .ok (.aload_n 0, 1) := by decide +kernel
theorem dX1_startAnew_11 : decode cX1_startAnew 11 = .ok (.iconst 0, 1) := by decide +kernel
theorem dX1_startAnew_12 : decode cX1_startAnew 12 = .ok (.putfield 28, 3) := by decide +kernel
theorem dX1_startAnew_15 : decode cX1_startAnew 15 = .ok (.aload_n 0, 1) := by decide +kernel
theorem dX1_startAnew_16 : decode cX1_startAnew 16 = .ok (.iconst 0, 1) := by decide +kernel
theorem dX1_startAnew_17 : decode cX1_startAnew 17 = .ok (.putfield 31, 3) := by decide +kernel
theorem dX1_startAnew_20 : decode cX1_startAnew 20 = .ok (.aload_n 0, 1) := by decide +kernel
theorem dX1_startAnew_21 : decode cX1_startAnew 21 = .ok (.iconst 0, 1) := by decide +kernel
theorem dX1_startAnew_22 : decode cX1_startAnew 22 = .ok (.putfield 34, 3) := by decide +kernel
theorem dX1_startAnew_25 : decode cX1_startAnew 25 = .ok (.aload_n 0, 1) := by decide +kernel
theorem dX1_startAnew_26 : decode cX1_startAnew 26 = .ok (.bipush (-9), 2) := by decide +kernel
theorem dX1_startAnew_28 : decode cX1_startAnew 28 = .ok (.putfield 37, 3) := by decide +kernel
theorem dX1_startAnew_31 : decode cX1_startAnew 31 = .ok (.aload_n 0, 1) := by decide +kernel
theorem dX1_startAnew_32 : decode cX1_startAnew 32 = .ok (.bipush (-9), 2) := by decide +kernel
theorem dX1_startAnew_34 : decode cX1_startAnew 34 = .ok (.putfield 40, 3) := by decide +kernel
theorem dX1_startAnew_37 : decode cX1_startAnew 37 = .ok (.aload_n 0, 1) := by decide +kernel
theorem dX1_startAnew_38 : decode cX1_startAnew 38 = .ok (.iconst 3, 1) := by decide +kernel
theorem dX1_startAnew_39 : decode cX1_startAnew 39 = .ok (.putfield 43, 3) := by decide +kernel
theorem dX1_startAnew_42 : decode cX1_startAnew 42 = .ok (.aload_n 0, 1) := by decide +kernel
theorem dX1_startAnew_43 : decode cX1_startAnew 43 = .ok (.iconst 2, 1) := by decide +kernel
theorem dX1_startAnew_44 : decode cX1_startAnew 44 = .ok (.putfield 46, 3) := by decide +kernel
theorem dX1_startAnew_47 : decode cX1_startAnew 47 = .ok (.return_, 1) := by decide +kernel
theorem dX1_hasPanel_0 : decode cX1_hasPanel 0 = .ok (.iload_n 1, 1) := by decide +kernel
theorem dX1_hasPanel_1 : decode cX1_hasPanel 1 = .ok (.ifCond .lt 24, 3) := by decide +kernel
theorem dX1_hasPanel_4 : decode cX1_hasPanel 4 = .ok (.iload_n 1, 1) := by decide +kernel
theorem dX1_hasPanel_5 : decode cX1_hasPanel 5 = .ok (.aload_n 0, 1) := by decide +kernel
theorem dX1_hasPanel_6 : decode cX1_hasPanel 6 = .ok (.getfield 21, 3) := by decide +kernel
theorem dX1_hasPanel_9 : decode cX1_hasPanel 9 = .ok (.if_icmp .ge 16, 3) := by decide +kernel
theorem dX1_hasPanel_12 : decode cX1_hasPanel 12 = .ok (.iload_n 1, 1) := by decide +kernel
theorem dX1_hasPanel_13 : decode cX1_hasPanel 13 = .ok (.aload_n 0, 1) := by decide +kernel
theorem dX1_hasPanel_14 : decode cX1_hasPanel 14 = .ok (.getfield 9, 3) := by decide +kernel
theorem dX1_hasPanel_17 : decode cX1_hasPanel 17 = .ok (.arraylength, 1) := by decide +kernel
theorem dX1_hasPanel_18 : decode cX1_hasPanel 18 = .ok (.if_icmp .ge 7, 3) := by decide +kernel
theorem dX1_hasPanel_21 : decode cX1_hasPanel 21 = .ok (.iconst 1, 1) := by decide +kernel
theorem dX1_hasPanel_22 : decode cX1_hasPanel 22 = .ok (.goto 4, 3) := by decide +kernel
theorem dX1_hasPanel_25 : decode cX1_hasPanel 25 = .ok (.iconst 0, 1) := by decide +kernel
theorem dX1_hasPanel_26 : decode cX1_hasPanel 26 = .ok (.ireturn, 1) := by decide +kernel
theorem dX1_hasBeam_0 : decode cX1_hasBeam 0 = .ok (.iload_n 1, 1) := by decide +kernel
theorem dX1_hasBeam_1 : decode cX1_hasBeam 1 = .ok (.ifCond .lt 24, 3) := by decide +kernel
theorem dX1_hasBeam_4 : decode cX1_hasBeam 4 = .ok (.iload_n 1, 1) := by decide +kernel
theorem dX1_hasBeam_5 : decode cX1_hasBeam 5 = .ok (.aload_n 0, 1) := by decide +kernel
theorem dX1_hasBeam_6 : decode cX1_hasBeam 6 = .ok (.getfield 28, 3) := by decide +kernel
theorem dX1_hasBeam_9 : decode cX1_hasBeam 9 = .ok (.if_icmp .ge 16, 3) := by decide +kernel
theorem dX1_hasBeam_12 : decode cX1_hasBeam 12 = .ok (.iload_n 1, 1) := by decide +kernel
theorem dX1_hasBeam_13 : decode cX1_hasBeam 13 = .ok (.aload_n 0, 1) := by decide +kernel
theorem dX1_hasBeam_14 : decode cX1_hasBeam 14 = .ok (.getfield 15, 3) := by decide +kernel
theorem dX1_hasBeam_17 : decode cX1_hasBeam 17 = .ok (.arraylength, 1) := by decide +kernel
theorem dX1_hasBeam_18 : decode cX1_hasBeam 18 = .ok (.if_icmp .ge 7, 3) := by decide +kernel
theorem dX1_hasBeam_21 : decode cX1_hasBeam 21 = .ok (.iconst 1, 1) := by decide +kernel
theorem dX1_hasBeam_22 : decode cX1_hasBeam 22 = .ok (.goto 4, 3) := by decide +kernel
theorem dX1_hasBeam_25 : decode cX1_hasBeam 25 = .ok (.iconst 0, 1) := by decide +kernel
theorem dX1_hasBeam_26 : decode cX1_hasBeam 26 = .ok (.ireturn, 1) := by decide +kernel
set_option maxRecDepth 20000 in
theorem ggX1_addPanel_X4_unitOf : GoodIn wsX1_addPanel wsX4_unitOf := goodIn_r _ [6] (by decide +kernel) (by decide +kernel)
set_option maxRecDepth 20000 in
theorem gX1_addPanel_X4_unitOf_n49 : GoodIn wsX1_addPanel (wsX4_unitOf) := ggX1_addPanel_X4_unitOf
theorem dX1_addPanel_0 : decode cX1_addPanel 0 = .ok (.aload_n 0, 1) := by decide +kernel
theorem dX1_addPanel_1 : decode cX1_addPanel 1 = .ok (.getfield 21, 3) := by decide +kernel
theorem dX1_addPanel_4 : decode cX1_addPanel 4 = .ok (.aload_n 0, 1) := by decide +kernel
theorem dX1_addPanel_5 : decode cX1_addPanel 5 = .ok (.getfield 9, 3) := by decide +kernel
theorem dX1_addPanel_8 : decode cX1_addPanel 8 = .ok (.arraylength, 1) := by decide +kernel
theorem dX1_addPanel_9 : decode cX1_addPanel 9 = .ok (.if_icmp .ge 41, 3) := by decide +kernel
theorem dX1_addPanel_12 : decode cX1_addPanel 12 = .ok (.aload_n 0, 1) := by decide +kernel
theorem dX1_addPanel_13 : decode cX1_addPanel 13 = .ok (.getfield 9, 3) := by decide +kernel
theorem dX1_addPanel_16 : decode cX1_addPanel 16 = .ok (.aload_n 0, 1) := by decide +kernel
theorem dX1_addPanel_17 : decode cX1_addPanel 17 = .ok (.getfield 21, 3) := by decide +kernel
theorem dX1_addPanel_20 : decode cX1_addPanel 20 = .ok (.iload_n 1, 1) := by decide +kernel
theorem dX1_addPanel_21 : decode cX1_addPanel 21 = .ok (.iastore, 1) := by decide +kernel
theorem dX1_addPanel_22 : decode cX1_addPanel 22 = .ok (.aload_n 0, 1) := by decide +kernel
theorem dX1_addPanel_23 : decode cX1_addPanel 23 = .ok (.dup, 1) := by decide +kernel
theorem dX1_addPanel_24 : decode cX1_addPanel 24 = .ok (.getfield 25, 3) := by decide +kernel
theorem dX1_addPanel_27 : decode cX1_addPanel 27 = .ok (.iload_n 2, 1) := by decide +kernel
theorem dX1_addPanel_28 : decode cX1_addPanel 28 = .ok (.aload_n 0, 1) := by decide +kernel
theorem dX1_addPanel_29 : decode cX1_addPanel 29 = .ok (.getfield 21, 3) := by decide +kernel
theorem dX1_addPanel_32 : decode cX1_addPanel 32 = .ok (.invokestatic 49, 3) := by decide +kernel
theorem dX1_addPanel_35 : decode cX1_addPanel 35 = .ok (.imul, 1) := by decide +kernel
theorem dX1_addPanel_36 : decode cX1_addPanel 36 = .ok (.iadd, 1) := by decide +kernel
theorem dX1_addPanel_37 : decode cX1_addPanel 37 = .ok (.putfield 25, 3) := by decide +kernel
theorem dX1_addPanel_40 : decode cX1_addPanel 40 = .ok (.aload_n 0, 1) := by decide +kernel
theorem dX1_addPanel_41 : decode cX1_addPanel 41 = .ok (.dup, 1) := by decide +kernel
theorem dX1_addPanel_42 : decode cX1_addPanel 42 = .ok (.getfield 21, 3) := by decide +kernel
theorem dX1_addPanel_45 : decode cX1_addPanel 45 = .ok (.iconst 1, 1) := by decide +kernel
theorem dX1_addPanel_46 : decode cX1_addPanel 46 = .ok (.iadd, 1) := by decide +kernel
theorem dX1_addPanel_47 : decode cX1_addPanel 47 = .ok (.putfield 21, 3) := by decide +kernel
theorem dX1_addPanel_50 : decode cX1_addPanel 50 = .ok (.return_, 1) := by decide +kernel
theorem dX1_addBeam_0 : decode cX1_addBeam 0 = .ok (.aload_n 0, 1) := by decide +kernel
theorem dX1_addBeam_1 : decode cX1_addBeam 1 = .ok (.getfield 28, 3) := by decide +kernel
theorem dX1_addBeam_4 : decode cX1_addBeam 4 = .ok (.aload_n 0, 1) := by decide +kernel
theorem dX1_addBeam_5 : decode cX1_addBeam 5 = .ok (.getfield 15, 3) := by decide +kernel
theorem dX1_addBeam_8 : decode cX1_addBeam 8 = .ok (.arraylength, 1) := by decide +kernel
theorem dX1_addBeam_9 : decode cX1_addBeam 9 = .ok (.if_icmp .ge 23, 3) := by decide +kernel
theorem dX1_addBeam_12 : decode cX1_addBeam 12 = .ok (.aload_n 0, 1) := by decide +kernel
theorem dX1_addBeam_13 : decode cX1_addBeam 13 = .ok (.getfield 15, 3) := by decide +kernel
theorem dX1_addBeam_16 : decode cX1_addBeam 16 = .ok (.aload_n 0, 1) := by decide +kernel
theorem dX1_addBeam_17 : decode cX1_addBeam 17 = .ok (.getfield 28, 3) := by decide +kernel
theorem dX1_addBeam_20 : decode cX1_addBeam 20 = .ok (.iload_n 1, 1) := by decide +kernel
theorem dX1_addBeam_21 : decode cX1_addBeam 21 = .ok (.iastore, 1) := by decide +kernel
theorem dX1_addBeam_22 : decode cX1_addBeam 22 = .ok (.aload_n 0, 1) := by decide +kernel
theorem dX1_addBeam_23 : decode cX1_addBeam 23 = .ok (.dup, 1) := by decide +kernel
theorem dX1_addBeam_24 : decode cX1_addBeam 24 = .ok (.getfield 28, 3) := by decide +kernel
theorem dX1_addBeam_27 : decode cX1_addBeam 27 = .ok (.iconst 1, 1) := by decide +kernel
theorem dX1_addBeam_28 : decode cX1_addBeam 28 = .ok (.iadd, 1) := by decide +kernel
theorem dX1_addBeam_29 : decode cX1_addBeam 29 = .ok (.putfield 28, 3) := by decide +kernel
theorem dX1_addBeam_32 : decode cX1_addBeam 32 = .ok (.return_, 1) := by decide +kernel
set_option maxRecDepth 20000 in
theorem ggX1_sortOf_X1_hasPanel : GoodIn wsX1_sortOf wsX1_hasPanel := goodIn_r _ [6, 7, 1, 8, 9, 10, 11, 12, 13, 14, 15, 16, 17, 18] (by decide +kernel) (by decide +kernel)
set_option maxRecDepth 20000 in
theorem gX1_sortOf_X1_hasPanel : GoodIn wsX1_sortOf (wsV RX1 53 RX1 yX1_hasPanel wsX1_hasPanel) := goodIn_app (goodIn_of _ (by decide +kernel)) ggX1_sortOf_X1_hasPanel
theorem dX1_sortOf_0 : decode cX1_sortOf 0 = .ok (.aload_n 0, 1) := by decide +kernel
theorem dX1_sortOf_1 : decode cX1_sortOf 1 = .ok (.iload_n 1, 1) := by decide +kernel
theorem dX1_sortOf_2 : decode cX1_sortOf 2 = .ok (.invokevirtual 53, 3) := by decide +kernel
theorem dX1_sortOf_5 : decode cX1_sortOf 5 = .ok (.ifCond .eq 12, 3) := by decide +kernel
theorem dX1_sortOf_8 : decode cX1_sortOf 8 = .ok (.aload_n 0, 1) := by decide +kernel
theorem dX1_sortOf_9 : decode cX1_sortOf 9 = .ok (.getfield 9, 3) := by decide +kernel
theorem dX1_sortOf_12 : decode cX1_sortOf 12 = .ok (.iload_n 1, 1) := by decide +kernel
theorem dX1_sortOf_13 : decode cX1_sortOf 13 = .ok (.iaload, 1) := by decide +kernel
theorem dX1_sortOf_14 : decode cX1_sortOf 14 = .ok (.goto 5, 3) := by decide +kernel
theorem dX1_sortOf_17 : decode cX1_sortOf 17 = .ok (.bipush (-9), 2) := by decide +kernel
theorem dX1_sortOf_19 : decode cX1_sortOf 19 = .ok (.ireturn, 1) := by decide +kernel
set_option maxRecDepth 20000 in
theorem ggX1_panelAt_X4_placeIn : GoodIn wsX1_panelAt wsX4_placeIn := goodIn_r _ [4] (by decide +kernel) (by decide +kernel)
set_option maxRecDepth 20000 in
theorem gX1_panelAt_X4_placeIn_n57 : GoodIn wsX1_panelAt (wsX4_placeIn) := ggX1_panelAt_X4_placeIn
theorem dX1_panelAt_0 : decode cX1_panelAt 0 = .ok (.iconst 0, 1) := by decide +kernel
theorem dX1_panelAt_1 : decode cX1_panelAt 1 = .ok (.istore_n 3, 1) := by decide +kernel
theorem dX1_panelAt_2 : decode cX1_panelAt 2 = .ok (.iload_n 3, 1) := by decide +kernel
theorem dX1_panelAt_3 : decode cX1_panelAt 3 = .ok (.aload_n 0, 1) := by decide +kernel
theorem dX1_panelAt_4 : decode cX1_panelAt 4 = .ok (.getfield 21, 3) := by decide +kernel
theorem dX1_panelAt_7 : decode cX1_panelAt 7 = .ok (.if_icmp .ge 20, 3) := by decide +kernel
theorem dX1_panelAt_10 : decode cX1_panelAt 10 = .ok (.iload_n 1, 1) := by decide +kernel
theorem dX1_panelAt_11 : decode cX1_panelAt 11 = .ok (.iload_n 3, 1) := by decide +kernel
theorem dX1_panelAt_12 : decode cX1_panelAt 12 = .ok (.invokestatic 57, 3) := by decide +kernel
theorem dX1_panelAt_15 : decode cX1_panelAt 15 = .ok (.iload_n 2, 1) := by decide +kernel
theorem dX1_panelAt_16 : decode cX1_panelAt 16 = .ok (.if_icmp .ne 5, 3) := by decide +kernel
theorem dX1_panelAt_19 : decode cX1_panelAt 19 = .ok (.iload_n 3, 1) := by decide +kernel
theorem dX1_panelAt_20 : decode cX1_panelAt 20 = .ok (.ireturn, 1) := by decide +kernel
theorem dX1_panelAt_21 : decode cX1_panelAt 21 = .ok (.iinc 3 1, 3) := by decide +kernel
theorem dX1_panelAt_24 : decode cX1_panelAt 24 = .ok (.goto (-22), 3) := by decide +kernel
theorem dX1_panelAt_27 : decode cX1_panelAt 27 = .ok (.bipush (-9), 2) := by decide +kernel
theorem dX1_panelAt_29 : decode cX1_panelAt 29 = .ok (.ireturn, 1) := by decide +kernel
set_option maxRecDepth 20000 in
theorem ggX1_slotsUnder_X4_placeIn : GoodIn wsX1_slotsUnder wsX4_placeIn := goodIn_r _ [5] (by decide +kernel) (by decide +kernel)
set_option maxRecDepth 20000 in
theorem gX1_slotsUnder_X4_placeIn_n57 : GoodIn wsX1_slotsUnder (wsX4_placeIn) := ggX1_slotsUnder_X4_placeIn
theorem dX1_slotsUnder_0 : decode cX1_slotsUnder 0 = .ok (.iconst 0, 1) := by decide +kernel
theorem dX1_slotsUnder_1 : decode cX1_slotsUnder 1 = .ok (.istore_n 3, 1) := by decide +kernel
theorem dX1_slotsUnder_2 : decode cX1_slotsUnder 2 = .ok (.iconst 0, 1) := by decide +kernel
theorem dX1_slotsUnder_3 : decode cX1_slotsUnder 3 = .ok (.istore 4, 2) := by decide +kernel
theorem dX1_slotsUnder_5 : decode cX1_slotsUnder 5 = .ok (.iload 4, 2) := by decide +kernel
theorem dX1_slotsUnder_7 : decode cX1_slotsUnder 7 = .ok (.aload_n 0, 1) := by decide +kernel
theorem dX1_slotsUnder_8 : decode cX1_slotsUnder 8 = .ok (.getfield 21, 3) := by decide +kernel
theorem dX1_slotsUnder_11 : decode cX1_slotsUnder 11 = .ok (.if_icmp .ge 56, 3) := by decide +kernel
theorem dX1_slotsUnder_14 : decode cX1_slotsUnder 14 = .ok (.iload 4, 2) := by decide +kernel
theorem dX1_slotsUnder_16 : decode cX1_slotsUnder 16 = .ok (.aload_n 0, 1) := by decide +kernel
theorem dX1_slotsUnder_17 : decode cX1_slotsUnder 17 = .ok (.getfield 9, 3) := by decide +kernel
theorem dX1_slotsUnder_20 : decode cX1_slotsUnder 20 = .ok (.arraylength, 1) := by decide +kernel
theorem dX1_slotsUnder_21 : decode cX1_slotsUnder 21 = .ok (.if_icmp .ge 46, 3) := by decide +kernel
theorem dX1_slotsUnder_24 : decode cX1_slotsUnder 24 = .ok (.iload_n 1, 1) := by decide +kernel
theorem dX1_slotsUnder_25 : decode cX1_slotsUnder 25 = .ok (.iload 4, 2) := by decide +kernel
theorem dX1_slotsUnder_27 : decode cX1_slotsUnder 27 = .ok (.invokestatic 57, 3) := by decide +kernel
theorem dX1_slotsUnder_30 : decode cX1_slotsUnder 30 = .ok (.istore 5, 2) := by decide +kernel
theorem dX1_slotsUnder_32 : decode cX1_slotsUnder 32 = .ok (.iload 5, 2) := by decide +kernel
theorem dX1_slotsUnder_34 : decode cX1_slotsUnder 34 = .ok (.bipush 8, 2) := by decide +kernel
theorem dX1_slotsUnder_36 : decode cX1_slotsUnder 36 = .ok (.if_icmp .eq 25, 3) := by decide +kernel
theorem dX1_slotsUnder_39 : decode cX1_slotsUnder 39 = .ok (.iload_n 2, 1) := by decide +kernel
theorem dX1_slotsUnder_40 : decode cX1_slotsUnder 40 = .ok (.aload_n 0, 1) := by decide +kernel
theorem dX1_slotsUnder_41 : decode cX1_slotsUnder 41 = .ok (.getfield 9, 3) := by decide +kernel
theorem dX1_slotsUnder_44 : decode cX1_slotsUnder 44 = .ok (.iload 4, 2) := by decide +kernel
theorem dX1_slotsUnder_46 : decode cX1_slotsUnder 46 = .ok (.iaload, 1) := by decide +kernel
theorem dX1_slotsUnder_47 : decode cX1_slotsUnder 47 = .ok (.ishr, 1) := by decide +kernel
theorem dX1_slotsUnder_48 : decode cX1_slotsUnder 48 = .ok (.iconst 1, 1) := by decide +kernel
theorem dX1_slotsUnder_49 : decode cX1_slotsUnder 49 = .ok (.iand, 1) := by decide +kernel
theorem dX1_slotsUnder_50 : decode cX1_slotsUnder 50 = .ok (.iconst 1, 1) := by decide +kernel
theorem dX1_slotsUnder_51 : decode cX1_slotsUnder 51 = .ok (.if_icmp .ne 10, 3) := by decide +kernel
theorem dX1_slotsUnder_54 : decode cX1_slotsUnder 54 = .ok (.iload_n 3, 1) := by decide +kernel
theorem dX1_slotsUnder_55 : decode cX1_slotsUnder 55 = .ok (.iconst 1, 1) := by decide +kernel
theorem dX1_slotsUnder_56 : decode cX1_slotsUnder 56 = .ok (.iload 5, 2) := by decide +kernel
theorem dX1_slotsUnder_58 : decode cX1_slotsUnder 58 = .ok (.ishl, 1) := by decide +kernel
theorem dX1_slotsUnder_59 : decode cX1_slotsUnder 59 = .ok (.ior, 1) := by decide +kernel
theorem dX1_slotsUnder_60 : decode cX1_slotsUnder 60 = .ok (.istore_n 3, 1) := by decide +kernel
theorem dX1_slotsUnder_61 : decode cX1_slotsUnder 61 = .ok (.iinc 4 1, 3) := by decide +kernel
theorem dX1_slotsUnder_64 : decode cX1_slotsUnder 64 = .ok (.goto (-59), 3) := by decide +kernel
theorem dX1_slotsUnder_67 : decode cX1_slotsUnder 67 = .ok (.iload_n 3, 1) := by decide +kernel
theorem dX1_slotsUnder_68 : decode cX1_slotsUnder 68 = .ok (.ireturn, 1) := by decide +kernel
set_option maxRecDepth 20000 in
theorem ggX1_lyingIn_X4_placeIn : GoodIn wsX1_lyingIn wsX4_placeIn := goodIn_r _ [4] (by decide +kernel) (by decide +kernel)
set_option maxRecDepth 20000 in
theorem gX1_lyingIn_X4_placeIn_n57 : GoodIn wsX1_lyingIn (wsX4_placeIn) := ggX1_lyingIn_X4_placeIn
theorem dX1_lyingIn_0 : decode cX1_lyingIn 0 = .ok (.iconst 0, 1) := by decide +kernel
theorem dX1_lyingIn_1 : decode cX1_lyingIn 1 = .ok (.istore_n 2, 1) := by decide +kernel
theorem dX1_lyingIn_2 : decode cX1_lyingIn 2 = .ok (.iconst 0, 1) := by decide +kernel
theorem dX1_lyingIn_3 : decode cX1_lyingIn 3 = .ok (.istore_n 3, 1) := by decide +kernel
theorem dX1_lyingIn_4 : decode cX1_lyingIn 4 = .ok (.iload_n 3, 1) := by decide +kernel
theorem dX1_lyingIn_5 : decode cX1_lyingIn 5 = .ok (.aload_n 0, 1) := by decide +kernel
theorem dX1_lyingIn_6 : decode cX1_lyingIn 6 = .ok (.getfield 21, 3) := by decide +kernel
theorem dX1_lyingIn_9 : decode cX1_lyingIn 9 = .ok (.if_icmp .ge 22, 3) := by decide +kernel
theorem dX1_lyingIn_12 : decode cX1_lyingIn 12 = .ok (.iload_n 1, 1) := by decide +kernel
theorem dX1_lyingIn_13 : decode cX1_lyingIn 13 = .ok (.iload_n 3, 1) := by decide +kernel
theorem dX1_lyingIn_14 : decode cX1_lyingIn 14 = .ok (.invokestatic 57, 3) := by decide +kernel
theorem dX1_lyingIn_17 : decode cX1_lyingIn 17 = .ok (.bipush 8, 2) := by decide +kernel
theorem dX1_lyingIn_19 : decode cX1_lyingIn 19 = .ok (.if_icmp .ne 6, 3) := by decide +kernel
theorem dX1_lyingIn_22 : decode cX1_lyingIn 22 = .ok (.iinc 2 1, 3) := by decide +kernel
theorem dX1_lyingIn_25 : decode cX1_lyingIn 25 = .ok (.iinc 3 1, 3) := by decide +kernel
theorem dX1_lyingIn_28 : decode cX1_lyingIn 28 = .ok (.goto (-24), 3) := by decide +kernel
theorem dX1_lyingIn_31 : decode cX1_lyingIn 31 = .ok (.iload_n 2, 1) := by decide +kernel
theorem dX1_lyingIn_32 : decode cX1_lyingIn 32 = .ok (.ireturn, 1) := by decide +kernel
set_option maxRecDepth 20000 in
theorem ggX1_isBorne_X1_hasBeam : GoodIn wsX1_isBorne wsX1_hasBeam := goodIn_r _ [6, 7, 1, 17, 18, 19, 20, 21, 22, 23, 24, 25, 26, 27] (by decide +kernel) (by decide +kernel)
set_option maxRecDepth 20000 in
theorem gX1_isBorne_X1_hasBeam : GoodIn wsX1_isBorne (wsV RX1 61 RX1 yX1_hasBeam wsX1_hasBeam) := goodIn_app (goodIn_of _ (by decide +kernel)) ggX1_isBorne_X1_hasBeam
set_option maxRecDepth 20000 in
theorem ggX1_isBorne_X1_slotsUnder : GoodIn wsX1_isBorne wsX1_slotsUnder := goodIn_r _ [11, 12, 13, 14, 15, 16, 17, 18, 19, 20, 21, 22, 23, 24, 25, 26, 27] (by decide +kernel) (by decide +kernel)
set_option maxRecDepth 20000 in
theorem gX1_isBorne_X1_slotsUnder : GoodIn wsX1_isBorne (wsV RX1 64 RX1 yX1_slotsUnder wsX1_slotsUnder) := goodIn_app (goodIn_of _ (by decide +kernel)) ggX1_isBorne_X1_slotsUnder
theorem dX1_isBorne_0 : decode cX1_isBorne 0 = .ok (.aload_n 0, 1) := by decide +kernel
theorem dX1_isBorne_1 : decode cX1_isBorne 1 = .ok (.iload_n 2, 1) := by decide +kernel
theorem dX1_isBorne_2 : decode cX1_isBorne 2 = .ok (.invokevirtual 61, 3) := by decide +kernel
theorem dX1_isBorne_5 : decode cX1_isBorne 5 = .ok (.ifCond .eq 23, 3) := by decide +kernel
theorem dX1_isBorne_8 : decode cX1_isBorne 8 = .ok (.aload_n 0, 1) := by decide +kernel
theorem dX1_isBorne_9 : decode cX1_isBorne 9 = .ok (.iload_n 1, 1) := by decide +kernel
theorem dX1_isBorne_10 : decode cX1_isBorne 10 = .ok (.iconst 1, 1) := by decide +kernel
theorem dX1_isBorne_11 : decode cX1_isBorne 11 = .ok (.invokevirtual 64, 3) := by decide +kernel
theorem dX1_isBorne_14 : decode cX1_isBorne 14 = .ok (.aload_n 0, 1) := by decide +kernel
theorem dX1_isBorne_15 : decode cX1_isBorne 15 = .ok (.getfield 15, 3) := by decide +kernel
theorem dX1_isBorne_18 : decode cX1_isBorne 18 = .ok (.iload_n 2, 1) := by decide +kernel
theorem dX1_isBorne_19 : decode cX1_isBorne 19 = .ok (.iaload, 1) := by decide +kernel
theorem dX1_isBorne_20 : decode cX1_isBorne 20 = .ok (.iand, 1) := by decide +kernel
theorem dX1_isBorne_21 : decode cX1_isBorne 21 = .ok (.ifCond .eq 7, 3) := by decide +kernel
theorem dX1_isBorne_24 : decode cX1_isBorne 24 = .ok (.iconst 1, 1) := by decide +kernel
theorem dX1_isBorne_25 : decode cX1_isBorne 25 = .ok (.goto 4, 3) := by decide +kernel
theorem dX1_isBorne_28 : decode cX1_isBorne 28 = .ok (.iconst 0, 1) := by decide +kernel
theorem dX1_isBorne_29 : decode cX1_isBorne 29 = .ok (.ireturn, 1) := by decide +kernel
set_option maxRecDepth 20000 in
theorem ggX1_allows_X1_lyingIn : GoodIn wsX1_allows wsX1_lyingIn := goodIn_r _ [8, 2, 9, 10, 11, 33, 34, 35, 36, 37, 38, 39, 40, 41, 42, 43] (by decide +kernel) (by decide +kernel)
set_option maxRecDepth 20000 in
theorem gX1_allows_X1_lyingIn : GoodIn wsX1_allows (wsV RX1 67 RX1 yX1_lyingIn wsX1_lyingIn) := goodIn_app (goodIn_of _ (by decide +kernel)) ggX1_allows_X1_lyingIn
set_option maxRecDepth 20000 in
theorem ggX1_allows_X1_slotsUnder : GoodIn wsX1_allows wsX1_slotsUnder := goodIn_r _ [15, 2, 16, 9, 10, 11, 33, 34, 35, 36, 37, 38, 39, 40, 41, 42, 43] (by decide +kernel) (by decide +kernel)
set_option maxRecDepth 20000 in
theorem gX1_allows_X1_slotsUnder : GoodIn wsX1_allows (wsV RX1 64 RX1 yX1_slotsUnder wsX1_slotsUnder) := goodIn_app (goodIn_of _ (by decide +kernel)) ggX1_allows_X1_slotsUnder
set_option maxRecDepth 20000 in
theorem ggX1_allows_J6_bitCount_0f7a4 : GoodIn wsX1_allows wsJ6_bitCount_0f7a4 := goodIn_r _ [20, 21, 22, 23] (by decide +kernel) (by decide +kernel)
set_option maxRecDepth 20000 in
theorem gX1_allows_J6_bitCount_0f7a4 : GoodIn wsX1_allows (va_wsS RX1 70 yJ6_bitCount_0f7a4 wsJ6_bitCount_0f7a4) := goodIn_app (goodIn_of _ (by decide +kernel)) ggX1_allows_J6_bitCount_0f7a4
set_option maxRecDepth 20000 in
theorem ggX1_allows_X1_isBorne : GoodIn wsX1_allows wsX1_isBorne := goodIn_r _ [27, 28, 29, 30, 31, 7, 32, 3, 12, 13, 14, 15, 2, 16, 9, 10, 11, 33, 34, 35, 36, 37, 38, 39, 40, 41, 42, 43] (by decide +kernel) (by decide +kernel)
set_option maxRecDepth 20000 in
theorem gX1_allows_X1_isBorne : GoodIn wsX1_allows (wsV RX1 75 RX1 yX1_isBorne wsX1_isBorne) := goodIn_app (goodIn_of _ (by decide +kernel)) ggX1_allows_X1_isBorne
theorem dX1_allows_0 : decode cX1_allows 0 = .ok (.aload_n 0, 1) := by decide +kernel
theorem dX1_allows_1 : decode cX1_allows 1 = .ok (.iload_n 1, 1) := by decide +kernel
theorem dX1_allows_2 : decode cX1_allows 2 = .ok (.invokevirtual 67, 3) := by decide +kernel
theorem dX1_allows_5 : decode cX1_allows 5 = .ok (.istore_n 2, 1) := by decide +kernel
theorem dX1_allows_6 : decode cX1_allows 6 = .ok (.iload_n 2, 1) := by decide +kernel
theorem dX1_allows_7 : decode cX1_allows 7 = .ok (.aload_n 0, 1) := by decide +kernel
theorem dX1_allows_8 : decode cX1_allows 8 = .ok (.getfield 43, 3) := by decide +kernel
theorem dX1_allows_11 : decode cX1_allows 11 = .ok (.if_icmp .le 5, 3) := by decide +kernel
theorem dX1_allows_14 : decode cX1_allows 14 = .ok (.iconst 0, 1) := by decide +kernel
theorem dX1_allows_15 : decode cX1_allows 15 = .ok (.ireturn, 1) := by decide +kernel
theorem dX1_allows_16 : decode cX1_allows 16 = .ok (.aload_n 0, 1) := by decide +kernel
theorem dX1_allows_17 : decode cX1_allows 17 = .ok (.iload_n 1, 1) := by decide +kernel
theorem dX1_allows_18 : decode cX1_allows 18 = .ok (.bipush 15, 2) := by decide +kernel
theorem dX1_allows_20 : decode cX1_allows 20 = .ok (.invokevirtual 64, 3) := by decide +kernel
theorem dX1_allows_23 : decode cX1_allows 23 = .ok (.invokestatic 70, 3) := by decide +kernel
theorem dX1_allows_26 : decode cX1_allows 26 = .ok (.iload_n 2, 1) := by decide +kernel
theorem dX1_allows_27 : decode cX1_allows 27 = .ok (.iadd, 1) := by decide +kernel
theorem dX1_allows_28 : decode cX1_allows 28 = .ok (.aload_n 0, 1) := by decide +kernel
theorem dX1_allows_29 : decode cX1_allows 29 = .ok (.getfield 21, 3) := by decide +kernel
theorem dX1_allows_32 : decode cX1_allows 32 = .ok (.if_icmp .eq 5, 3) := by decide +kernel
theorem dX1_allows_35 : decode cX1_allows 35 = .ok (.iconst 0, 1) := by decide +kernel
theorem dX1_allows_36 : decode cX1_allows 36 = .ok (.ireturn, 1) := by decide +kernel
theorem dX1_allows_37 : decode cX1_allows 37 = .ok (.iconst 0, 1) := by decide +kernel
theorem dX1_allows_38 : decode cX1_allows 38 = .ok (.istore_n 3, 1) := by decide +kernel
theorem dX1_allows_39 : decode cX1_allows 39 = .ok (.iload_n 3, 1) := by decide +kernel
theorem dX1_allows_40 : decode cX1_allows 40 = .ok (.aload_n 0, 1) := by decide +kernel
theorem dX1_allows_41 : decode cX1_allows 41 = .ok (.getfield 28, 3) := by decide +kernel
theorem dX1_allows_44 : decode cX1_allows 44 = .ok (.if_icmp .ge 20, 3) := by decide +kernel
theorem dX1_allows_47 : decode cX1_allows 47 = .ok (.aload_n 0, 1) := by decide +kernel
theorem dX1_allows_48 : decode cX1_allows 48 = .ok (.iload_n 1, 1) := by decide +kernel
theorem dX1_allows_49 : decode cX1_allows 49 = .ok (.iload_n 3, 1) := by decide +kernel
theorem dX1_allows_50 : decode cX1_allows 50 = .ok (.invokevirtual 75, 3) := by decide +kernel
theorem dX1_allows_53 : decode cX1_allows 53 = .ok (.ifCond .ne 5, 3) := by decide +kernel
theorem dX1_allows_56 : decode cX1_allows 56 = .ok (.iconst 0, 1) := by decide +kernel
theorem dX1_allows_57 : decode cX1_allows 57 = .ok (.ireturn, 1) := by decide +kernel
theorem dX1_allows_58 : decode cX1_allows 58 = .ok (.iinc 3 1, 3) := by decide +kernel
theorem dX1_allows_61 : decode cX1_allows 61 = .ok (.goto (-22), 3) := by decide +kernel
theorem dX1_allows_64 : decode cX1_allows 64 = .ok (.iconst 1, 1) := by decide +kernel
theorem dX1_allows_65 : decode cX1_allows 65 = .ok (.ireturn, 1) := by decide +kernel
set_option maxRecDepth 20000 in
theorem ggX1_leaksOf_X1_slotsUnder : GoodIn wsX1_leaksOf wsX1_slotsUnder := goodIn_r _ [6, 7, 8, 9, 10, 11, 19, 20, 21, 22, 23, 24, 25, 26, 27, 28, 29] (by decide +kernel) (by decide +kernel)
set_option maxRecDepth 20000 in
theorem gX1_leaksOf_X1_slotsUnder : GoodIn wsX1_leaksOf (wsV RX1 64 RX1 yX1_slotsUnder wsX1_slotsUnder) := goodIn_app (goodIn_of _ (by decide +kernel)) ggX1_leaksOf_X1_slotsUnder
set_option maxRecDepth 20000 in
theorem ggX1_leaksOf_J6_bitCount_0f7a4 : GoodIn wsX1_leaksOf wsJ6_bitCount_0f7a4 := goodIn_r _ [15, 16, 17, 18] (by decide +kernel) (by decide +kernel)
set_option maxRecDepth 20000 in
theorem gX1_leaksOf_J6_bitCount_0f7a4 : GoodIn wsX1_leaksOf (va_wsS RX1 70 yJ6_bitCount_0f7a4 wsJ6_bitCount_0f7a4) := goodIn_app (goodIn_of _ (by decide +kernel)) ggX1_leaksOf_J6_bitCount_0f7a4
theorem dX1_leaksOf_0 : decode cX1_leaksOf 0 = .ok (.aload_n 0, 1) := by decide +kernel
theorem dX1_leaksOf_1 : decode cX1_leaksOf 1 = .ok (.getfield 31, 3) := by decide +kernel
theorem dX1_leaksOf_4 : decode cX1_leaksOf 4 = .ok (.aload_n 0, 1) := by decide +kernel
theorem dX1_leaksOf_5 : decode cX1_leaksOf 5 = .ok (.iload_n 1, 1) := by decide +kernel
theorem dX1_leaksOf_6 : decode cX1_leaksOf 6 = .ok (.iconst 3, 1) := by decide +kernel
theorem dX1_leaksOf_7 : decode cX1_leaksOf 7 = .ok (.invokevirtual 64, 3) := by decide +kernel
theorem dX1_leaksOf_10 : decode cX1_leaksOf 10 = .ok (.iconst (-1), 1) := by decide +kernel
theorem dX1_leaksOf_11 : decode cX1_leaksOf 11 = .ok (.ixor, 1) := by decide +kernel
theorem dX1_leaksOf_12 : decode cX1_leaksOf 12 = .ok (.iand, 1) := by decide +kernel
theorem dX1_leaksOf_13 : decode cX1_leaksOf 13 = .ok (.invokestatic 70, 3) := by decide +kernel
theorem dX1_leaksOf_16 : decode cX1_leaksOf 16 = .ok (.ireturn, 1) := by decide +kernel
set_option maxRecDepth 20000 in
theorem ggX1_litHours_X1_slotsUnder : GoodIn wsX1_litHours wsX1_slotsUnder := goodIn_r _ [6, 7, 8, 9, 10, 11, 12, 13, 14, 15, 16, 17, 18, 19, 20, 21, 22] (by decide +kernel) (by decide +kernel)
set_option maxRecDepth 20000 in
theorem gX1_litHours_X1_slotsUnder : GoodIn wsX1_litHours (wsV RX1 64 RX1 yX1_slotsUnder wsX1_slotsUnder) := goodIn_app (goodIn_of _ (by decide +kernel)) ggX1_litHours_X1_slotsUnder
theorem dX1_litHours_0 : decode cX1_litHours 0 = .ok (.aload_n 0, 1) := by decide +kernel
theorem dX1_litHours_1 : decode cX1_litHours 1 = .ok (.getfield 34, 3) := by decide +kernel
theorem dX1_litHours_4 : decode cX1_litHours 4 = .ok (.aload_n 0, 1) := by decide +kernel
theorem dX1_litHours_5 : decode cX1_litHours 5 = .ok (.iload_n 1, 1) := by decide +kernel
theorem dX1_litHours_6 : decode cX1_litHours 6 = .ok (.bipush 13, 2) := by decide +kernel
theorem dX1_litHours_8 : decode cX1_litHours 8 = .ok (.invokevirtual 64, 3) := by decide +kernel
theorem dX1_litHours_11 : decode cX1_litHours 11 = .ok (.iconst (-1), 1) := by decide +kernel
theorem dX1_litHours_12 : decode cX1_litHours 12 = .ok (.ixor, 1) := by decide +kernel
theorem dX1_litHours_13 : decode cX1_litHours 13 = .ok (.iand, 1) := by decide +kernel
theorem dX1_litHours_14 : decode cX1_litHours 14 = .ok (.ireturn, 1) := by decide +kernel
set_option maxRecDepth 20000 in
theorem ggX1_worthOf_X1_litHours : GoodIn wsX1_worthOf wsX1_litHours := goodIn_r _ [7, 8, 9, 10, 11, 6, 12, 13, 14, 15, 16, 17, 34, 35, 36, 37, 38, 39, 40, 41, 42, 43, 44] (by decide +kernel) (by decide +kernel)
set_option maxRecDepth 20000 in
theorem gX1_worthOf_X1_litHours : GoodIn wsX1_worthOf (wsV RX1 79 RX1 yX1_litHours wsX1_litHours) := goodIn_app (goodIn_of _ (by decide +kernel)) ggX1_worthOf_X1_litHours
set_option maxRecDepth 20000 in
theorem ggX1_worthOf_J6_bitCount_0f7a4 : GoodIn wsX1_worthOf wsJ6_bitCount_0f7a4 := goodIn_r _ [21, 22, 23, 24] (by decide +kernel) (by decide +kernel)
set_option maxRecDepth 20000 in
theorem gX1_worthOf_J6_bitCount_0f7a4 : GoodIn wsX1_worthOf (va_wsS RX1 70 yJ6_bitCount_0f7a4 wsJ6_bitCount_0f7a4) := goodIn_app (goodIn_of _ (by decide +kernel)) ggX1_worthOf_J6_bitCount_0f7a4
set_option maxRecDepth 20000 in
theorem ggX1_worthOf_X1_leaksOf : GoodIn wsX1_worthOf wsX1_leaksOf := goodIn_r _ [28, 29, 9, 10, 11, 6, 12, 13, 14, 15, 16, 17, 18, 19, 20, 21, 22, 23, 24, 34, 35, 36, 37, 38, 39, 40, 41, 42, 43, 44] (by decide +kernel) (by decide +kernel)
set_option maxRecDepth 20000 in
theorem gX1_worthOf_X1_leaksOf : GoodIn wsX1_worthOf (wsV RX1 82 RX1 yX1_leaksOf wsX1_leaksOf) := goodIn_app (goodIn_of _ (by decide +kernel)) ggX1_worthOf_X1_leaksOf
set_option maxRecDepth 20000 in
theorem ggX1_worthOf_X1_slotsUnder : GoodIn wsX1_worthOf wsX1_slotsUnder := goodIn_r _ [12, 13, 14, 15, 16, 17, 34, 35, 36, 37, 38, 39, 40, 41, 42, 43, 44] (by decide +kernel) (by decide +kernel)
set_option maxRecDepth 20000 in
theorem gX1_worthOf_X1_slotsUnder : GoodIn wsX1_worthOf (wsV RX1 64 RX1 yX1_slotsUnder wsX1_slotsUnder) := goodIn_app (goodIn_of _ (by decide +kernel)) ggX1_worthOf_X1_slotsUnder
set_option maxRecDepth 20000 in
theorem ggX1_worthOf_X1_quietIn : GoodIn wsX1_worthOf wsX1_quietIn := goodIn_r _ [33, 2, 9, 10, 11, 6, 12, 13, 14, 15, 16, 17, 34, 35, 36, 37, 38, 39, 40, 41, 42, 43, 44] (by decide +kernel) (by decide +kernel)
set_option maxRecDepth 20000 in
theorem gX1_worthOf_X1_quietIn : GoodIn wsX1_worthOf (wsV RX1 85 RX1 yX1_quietIn wsX1_quietIn) := goodIn_app (goodIn_of _ (by decide +kernel)) ggX1_worthOf_X1_quietIn
theorem dX1_worthOf_0 : decode cX1_worthOf 0 = .ok (.iconst 3, 1) := by decide +kernel
theorem dX1_worthOf_1 : decode cX1_worthOf 1 = .ok (.aload_n 0, 1) := by decide +kernel
theorem dX1_worthOf_2 : decode cX1_worthOf 2 = .ok (.iload_n 1, 1) := by decide +kernel
theorem dX1_worthOf_3 : decode cX1_worthOf 3 = .ok (.invokevirtual 79, 3) := by decide +kernel
theorem dX1_worthOf_6 : decode cX1_worthOf 6 = .ok (.invokestatic 70, 3) := by decide +kernel
theorem dX1_worthOf_9 : decode cX1_worthOf 9 = .ok (.imul, 1) := by decide +kernel
theorem dX1_worthOf_10 : decode cX1_worthOf 10 = .ok (.iconst 2, 1) := by decide +kernel
theorem dX1_worthOf_11 : decode cX1_worthOf 11 = .ok (.aload_n 0, 1) := by decide +kernel
theorem dX1_worthOf_12 : decode cX1_worthOf 12 = .ok (.iload_n 1, 1) := by decide +kernel
theorem dX1_worthOf_13 : decode cX1_worthOf 13 = .ok (.invokevirtual 82, 3) := by decide +kernel
theorem dX1_worthOf_16 : decode cX1_worthOf 16 = .ok (.imul, 1) := by decide +kernel
theorem dX1_worthOf_17 : decode cX1_worthOf 17 = .ok (.isub, 1) := by decide +kernel
theorem dX1_worthOf_18 : decode cX1_worthOf 18 = .ok (.istore_n 2, 1) := by decide +kernel
theorem dX1_worthOf_19 : decode cX1_worthOf 19 = .ok (.aload_n 0, 1) := by decide +kernel
theorem dX1_worthOf_20 : decode cX1_worthOf 20 = .ok (.getfield 37, 3) := by decide +kernel
theorem dX1_worthOf_23 : decode cX1_worthOf 23 = .ok (.bipush (-9), 2) := by decide +kernel
theorem dX1_worthOf_25 : decode cX1_worthOf 25 = .ok (.if_icmp .eq 23, 3) := by decide +kernel
theorem dX1_worthOf_28 : decode cX1_worthOf 28 = .ok (.aload_n 0, 1) := by decide +kernel
theorem dX1_worthOf_29 : decode cX1_worthOf 29 = .ok (.iload_n 1, 1) := by decide +kernel
theorem dX1_worthOf_30 : decode cX1_worthOf 30 = .ok (.bipush 13, 2) := by decide +kernel
theorem dX1_worthOf_32 : decode cX1_worthOf 32 = .ok (.invokevirtual 64, 3) := by decide +kernel
theorem dX1_worthOf_35 : decode cX1_worthOf 35 = .ok (.aload_n 0, 1) := by decide +kernel
theorem dX1_worthOf_36 : decode cX1_worthOf 36 = .ok (.getfield 37, 3) := by decide +kernel
theorem dX1_worthOf_39 : decode cX1_worthOf 39 = .ok (.ishr, 1) := by decide +kernel
theorem dX1_worthOf_40 : decode cX1_worthOf 40 = .ok (.iconst 1, 1) := by decide +kernel
theorem dX1_worthOf_41 : decode cX1_worthOf 41 = .ok (.iand, 1) := by decide +kernel
theorem dX1_worthOf_42 : decode cX1_worthOf 42 = .ok (.ifCond .ne 6, 3) := by decide +kernel
theorem dX1_worthOf_45 : decode cX1_worthOf 45 = .ok (.iinc 2 5, 3) := by decide +kernel
theorem dX1_worthOf_48 : decode cX1_worthOf 48 = .ok (.aload_n 0, 1) := by decide +kernel
theorem dX1_worthOf_49 : decode cX1_worthOf 49 = .ok (.getfield 40, 3) := by decide +kernel
theorem dX1_worthOf_52 : decode cX1_worthOf 52 = .ok (.bipush (-9), 2) := by decide +kernel
theorem dX1_worthOf_54 : decode cX1_worthOf 54 = .ok (.if_icmp .eq 11, 3) := by decide +kernel
theorem dX1_worthOf_57 : decode cX1_worthOf 57 = .ok (.iload_n 2, 1) := by decide +kernel
theorem dX1_worthOf_58 : decode cX1_worthOf 58 = .ok (.aload_n 0, 1) := by decide +kernel
theorem dX1_worthOf_59 : decode cX1_worthOf 59 = .ok (.iload_n 1, 1) := by decide +kernel
theorem dX1_worthOf_60 : decode cX1_worthOf 60 = .ok (.invokevirtual 85, 3) := by decide +kernel
theorem dX1_worthOf_63 : decode cX1_worthOf 63 = .ok (.iadd, 1) := by decide +kernel
theorem dX1_worthOf_64 : decode cX1_worthOf 64 = .ok (.istore_n 2, 1) := by decide +kernel
theorem dX1_worthOf_65 : decode cX1_worthOf 65 = .ok (.iload_n 2, 1) := by decide +kernel
theorem dX1_worthOf_66 : decode cX1_worthOf 66 = .ok (.ireturn, 1) := by decide +kernel
set_option maxRecDepth 20000 in
theorem ggX1_quietIn_X1_slotsUnder : GoodIn wsX1_quietIn wsX1_slotsUnder := goodIn_r _ [6, 7, 8, 9, 10, 11, 12, 13, 14, 15, 16, 17, 18, 19, 20, 21, 22] (by decide +kernel) (by decide +kernel)
set_option maxRecDepth 20000 in
theorem gX1_quietIn_X1_slotsUnder : GoodIn wsX1_quietIn (wsV RX1 64 RX1 yX1_slotsUnder wsX1_slotsUnder) := goodIn_app (goodIn_of _ (by decide +kernel)) ggX1_quietIn_X1_slotsUnder
theorem dX1_quietIn_0 : decode cX1_quietIn 0 = .ok (.aload_n 0, 1) := by decide +kernel
theorem dX1_quietIn_1 : decode cX1_quietIn 1 = .ok (.iload_n 1, 1) := by decide +kernel
theorem dX1_quietIn_2 : decode cX1_quietIn 2 = .ok (.iconst 1, 1) := by decide +kernel
theorem dX1_quietIn_3 : decode cX1_quietIn 3 = .ok (.invokevirtual 64, 3) := by decide +kernel
theorem dX1_quietIn_6 : decode cX1_quietIn 6 = .ok (.aload_n 0, 1) := by decide +kernel
theorem dX1_quietIn_7 : decode cX1_quietIn 7 = .ok (.getfield 40, 3) := by decide +kernel
theorem dX1_quietIn_10 : decode cX1_quietIn 10 = .ok (.ishr, 1) := by decide +kernel
theorem dX1_quietIn_11 : decode cX1_quietIn 11 = .ok (.iconst 1, 1) := by decide +kernel
theorem dX1_quietIn_12 : decode cX1_quietIn 12 = .ok (.iand, 1) := by decide +kernel
theorem dX1_quietIn_13 : decode cX1_quietIn 13 = .ok (.iconst 1, 1) := by decide +kernel
theorem dX1_quietIn_14 : decode cX1_quietIn 14 = .ok (.if_icmp .ne 5, 3) := by decide +kernel
theorem dX1_quietIn_17 : decode cX1_quietIn 17 = .ok (.iconst 4, 1) := by decide +kernel
theorem dX1_quietIn_18 : decode cX1_quietIn 18 = .ok (.ireturn, 1) := by decide +kernel
theorem dX1_quietIn_19 : decode cX1_quietIn 19 = .ok (.aload_n 0, 1) := by decide +kernel
theorem dX1_quietIn_20 : decode cX1_quietIn 20 = .ok (.iload_n 1, 1) := by decide +kernel
theorem dX1_quietIn_21 : decode cX1_quietIn 21 = .ok (.bipush 15, 2) := by decide +kernel
theorem dX1_quietIn_23 : decode cX1_quietIn 23 = .ok (.invokevirtual 64, 3) := by decide +kernel
theorem dX1_quietIn_26 : decode cX1_quietIn 26 = .ok (.aload_n 0, 1) := by decide +kernel
theorem dX1_quietIn_27 : decode cX1_quietIn 27 = .ok (.getfield 40, 3) := by decide +kernel
theorem dX1_quietIn_30 : decode cX1_quietIn 30 = .ok (.ishr, 1) := by decide +kernel
theorem dX1_quietIn_31 : decode cX1_quietIn 31 = .ok (.iconst 1, 1) := by decide +kernel
theorem dX1_quietIn_32 : decode cX1_quietIn 32 = .ok (.iand, 1) := by decide +kernel
theorem dX1_quietIn_33 : decode cX1_quietIn 33 = .ok (.iconst 1, 1) := by decide +kernel
theorem dX1_quietIn_34 : decode cX1_quietIn 34 = .ok (.if_icmp .ne 7, 3) := by decide +kernel
theorem dX1_quietIn_37 : decode cX1_quietIn 37 = .ok (.iconst 2, 1) := by decide +kernel
theorem dX1_quietIn_38 : decode cX1_quietIn 38 = .ok (.goto 4, 3) := by decide +kernel
theorem dX1_quietIn_41 : decode cX1_quietIn 41 = .ok (.iconst 0, 1) := by decide +kernel
theorem dX1_quietIn_42 : decode cX1_quietIn 42 = .ok (.ireturn, 1) := by decide +kernel
set_option maxRecDepth 20000 in
theorem ggX1_fitsLetter_X1_litHours : GoodIn wsX1_fitsLetter wsX1_litHours := goodIn_r _ [5, 6, 7, 8, 9, 4, 10, 11, 12, 13, 14, 15, 24, 25, 26, 27, 28, 29, 30, 31, 32, 33, 34] (by decide +kernel) (by decide +kernel)
set_option maxRecDepth 20000 in
theorem gX1_fitsLetter_X1_litHours : GoodIn wsX1_fitsLetter (wsV RX1 79 RX1 yX1_litHours wsX1_litHours) := goodIn_app (goodIn_of _ (by decide +kernel)) ggX1_fitsLetter_X1_litHours
theorem dX1_fitsLetter_0 : decode cX1_fitsLetter 0 = .ok (.aload_n 0, 1) := by decide +kernel
theorem dX1_fitsLetter_1 : decode cX1_fitsLetter 1 = .ok (.iload_n 1, 1) := by decide +kernel
theorem dX1_fitsLetter_2 : decode cX1_fitsLetter 2 = .ok (.invokevirtual 79, 3) := by decide +kernel
theorem dX1_fitsLetter_5 : decode cX1_fitsLetter 5 = .ok (.istore_n 3, 1) := by decide +kernel
theorem dX1_fitsLetter_6 : decode cX1_fitsLetter 6 = .ok (.aload_n 2, 1) := by decide +kernel
theorem dX1_fitsLetter_7 : decode cX1_fitsLetter 7 = .ok (.getfield 88, 3) := by decide +kernel
theorem dX1_fitsLetter_10 : decode cX1_fitsLetter 10 = .ok (.iload_n 3, 1) := by decide +kernel
theorem dX1_fitsLetter_11 : decode cX1_fitsLetter 11 = .ok (.iconst (-1), 1) := by decide +kernel
theorem dX1_fitsLetter_12 : decode cX1_fitsLetter 12 = .ok (.ixor, 1) := by decide +kernel
theorem dX1_fitsLetter_13 : decode cX1_fitsLetter 13 = .ok (.iand, 1) := by decide +kernel
theorem dX1_fitsLetter_14 : decode cX1_fitsLetter 14 = .ok (.ifCond .ne 16, 3) := by decide +kernel
theorem dX1_fitsLetter_17 : decode cX1_fitsLetter 17 = .ok (.aload_n 2, 1) := by decide +kernel
theorem dX1_fitsLetter_18 : decode cX1_fitsLetter 18 = .ok (.getfield 92, 3) := by decide +kernel
theorem dX1_fitsLetter_21 : decode cX1_fitsLetter 21 = .ok (.iload_n 3, 1) := by decide +kernel
theorem dX1_fitsLetter_22 : decode cX1_fitsLetter 22 = .ok (.iand, 1) := by decide +kernel
theorem dX1_fitsLetter_23 : decode cX1_fitsLetter 23 = .ok (.ifCond .ne 7, 3) := by decide +kernel
theorem dX1_fitsLetter_26 : decode cX1_fitsLetter 26 = .ok (.iconst 1, 1) := by decide +kernel
theorem dX1_fitsLetter_27 : decode cX1_fitsLetter 27 = .ok (.goto 4, 3) := by decide +kernel
theorem dX1_fitsLetter_30 : decode cX1_fitsLetter 30 = .ok (.iconst 0, 1) := by decide +kernel
theorem dX1_fitsLetter_31 : decode cX1_fitsLetter 31 = .ok (.ireturn, 1) := by decide +kernel
theorem dX2_init_0 : decode cX2_init 0 = .ok (.aload_n 0, 1) := by decide +kernel
theorem dX2_init_1 : decode cX2_init 1 = .ok (.invokespecial 3, 3) := by decide +kernel
theorem dX2_init_4 : decode cX2_init 4 = .ok (.aload_n 0, 1) := by decide +kernel
theorem dX2_init_5 : decode cX2_init 5 = .ok (.sipush 6561, 3) := by decide +kernel
theorem dX2_init_8 : decode cX2_init 8 = .ok (.newarray .byte, 2) := by decide +kernel
theorem dX2_init_10 : decode cX2_init 10 = .ok (.putfield 11, 3) := by decide +kernel
theorem dX2_init_13 : decode cX2_init 13 = .ok (.aload_n 0, 1) := by decide +kernel
theorem dX2_init_14 : decode cX2_init 14 = .ok (.sipush 6561, 3) := by decide +kernel
theorem dX2_init_17 : decode cX2_init 17 = .ok (.newarray .int, 2) := by decide +kernel
theorem dX2_init_19 : decode cX2_init 19 = .ok (.putfield 15, 3) := by decide +kernel
theorem dX2_init_22 : decode cX2_init 22 = .ok (.aload_n 0, 1) := by decide +kernel
theorem dX2_init_23 : decode cX2_init 23 = .ok (.sipush 3394, 3) := by decide +kernel
theorem dX2_init_26 : decode cX2_init 26 = .ok (.newarray .int, 2) := by decide +kernel
theorem dX2_init_28 : decode cX2_init 28 = .ok (.putfield 19, 3) := by decide +kernel
theorem dX2_init_31 : decode cX2_init 31 = .ok (.return_, 1) := by decide +kernel
set_option maxRecDepth 20000 in
theorem ggX2_survey_X4_unitOf : GoodIn wsX2_survey wsX4_unitOf := goodIn_r _ [5] (by decide +kernel) (by decide +kernel)
set_option maxRecDepth 20000 in
theorem gX2_survey_X4_unitOf_n32 : GoodIn wsX2_survey (wsX4_unitOf) := ggX2_survey_X4_unitOf
set_option maxRecDepth 20000 in
theorem ggX2_survey_X1_allows : GoodIn wsX2_survey wsX1_allows := goodIn_r _ [9, 10, 11, 12, 13, 14, 15, 7, 16, 17, 4, 18, 19, 20, 21, 22, 23, 24, 25, 26, 27, 28, 29, 30, 31, 32, 33, 34, 35, 36, 37, 38, 39, 45, 46, 47, 48, 49, 50, 51, 52, 53, 54, 55] (by decide +kernel) (by decide +kernel)
set_option maxRecDepth 20000 in
theorem gX2_survey_X1_allows_n36 : GoodIn wsX2_survey (wsX1_allows) := ggX2_survey_X1_allows
theorem dX2_survey_0 : decode cX2_survey 0 = .ok (.aload_n 0, 1) := by decide +kernel
theorem dX2_survey_1 : decode cX2_survey 1 = .ok (.getfield 22, 3) := by decide +kernel
theorem dX2_survey_4 : decode cX2_survey 4 = .ok (.ifCond .eq 4, 3) := by decide +kernel
theorem dX2_survey_7 : decode cX2_survey 7 = .ok (.return_, 1) := by decide +kernel
theorem dX2_survey_8 : decode cX2_survey 8 = .ok (.iconst 0, 1) := by decide +kernel
theorem dX2_survey_9 : decode cX2_survey 9 = .ok (.istore_n 2, 1) := by decide +kernel
theorem dX2_survey_10 : decode cX2_survey 10 = .ok (.iload_n 2, 1) := by decide +kernel
theorem dX2_survey_11 : decode cX2_survey 11 = .ok (.sipush 6561, 3) := by decide +kernel
theorem dX2_survey_14 : decode cX2_survey 14 = .ok (.if_icmp .ge 16, 3) := by decide +kernel
theorem dX2_survey_17 : decode cX2_survey 17 = .ok (.aload_n 0, 1) := by decide +kernel
theorem dX2_survey_18 : decode cX2_survey 18 = .ok (.getfield 11, 3) := by decide +kernel
theorem dX2_survey_21 : decode cX2_survey 21 = .ok (.iload_n 2, 1) := by decide +kernel
theorem dX2_survey_22 : decode cX2_survey 22 = .ok (.iconst 0, 1) := by decide +kernel
theorem dX2_survey_23 : decode cX2_survey 23 = .ok (.bastore, 1) := by decide +kernel
theorem dX2_survey_24 : decode cX2_survey 24 = .ok (.iinc 2 1, 3) := by decide +kernel
theorem dX2_survey_27 : decode cX2_survey 27 = .ok (.goto (-17), 3) := by decide +kernel
theorem dX2_survey_30 : decode cX2_survey 30 = .ok (.aload_n 1, 1) := by decide +kernel
theorem dX2_survey_31 : decode cX2_survey 31 = .ok (.getfield 26, 3) := by decide +kernel
theorem dX2_survey_34 : decode cX2_survey 34 = .ok (.ifCond .ne 9, 3) := by decide +kernel
theorem dX2_survey_37 : decode cX2_survey 37 = .ok (.sipush 6561, 3) := by decide +kernel
theorem dX2_survey_40 : decode cX2_survey 40 = .ok (.goto 12, 3) := by decide +kernel
theorem dX2_survey_43 : decode cX2_survey 43 = .ok (.aload_n 1, 1) := by decide +kernel
theorem dX2_survey_44 : decode cX2_survey 44 = .ok (.getfield 26, 3) := by decide +kernel
theorem dX2_survey_47 : decode cX2_survey 47 = .ok (.iconst 1, 1) := by decide +kernel
theorem dX2_survey_48 : decode cX2_survey 48 = .ok (.isub, 1) := by decide +kernel
theorem dX2_survey_49 : decode cX2_survey 49 = .ok (.invokestatic 32, 3) := by decide +kernel
theorem dX2_survey_52 : decode cX2_survey 52 = .ok (.istore_n 2, 1) := by decide +kernel
theorem dX2_survey_53 : decode cX2_survey 53 = .ok (.iconst 0, 1) := by decide +kernel
theorem dX2_survey_54 : decode cX2_survey 54 = .ok (.istore_n 3, 1) := by decide +kernel
theorem dX2_survey_55 : decode cX2_survey 55 = .ok (.iload_n 3, 1) := by decide +kernel
theorem dX2_survey_56 : decode cX2_survey 56 = .ok (.sipush 6561, 3) := by decide +kernel
theorem dX2_survey_59 : decode cX2_survey 59 = .ok (.if_icmp .ge 37, 3) := by decide +kernel
theorem dX2_survey_62 : decode cX2_survey 62 = .ok (.iload_n 3, 1) := by decide +kernel
theorem dX2_survey_63 : decode cX2_survey 63 = .ok (.iload_n 2, 1) := by decide +kernel
theorem dX2_survey_64 : decode cX2_survey 64 = .ok (.imul, 1) := by decide +kernel
theorem dX2_survey_65 : decode cX2_survey 65 = .ok (.sipush 6561, 3) := by decide +kernel
theorem dX2_survey_68 : decode cX2_survey 68 = .ok (.if_icmp .ge 28, 3) := by decide +kernel
theorem dX2_survey_71 : decode cX2_survey 71 = .ok (.aload_n 1, 1) := by decide +kernel
theorem dX2_survey_72 : decode cX2_survey 72 = .ok (.iload_n 3, 1) := by decide +kernel
theorem dX2_survey_73 : decode cX2_survey 73 = .ok (.iload_n 2, 1) := by decide +kernel
theorem dX2_survey_74 : decode cX2_survey 74 = .ok (.imul, 1) := by decide +kernel
theorem dX2_survey_75 : decode cX2_survey 75 = .ok (.invokevirtual 36, 3) := by decide +kernel
theorem dX2_survey_78 : decode cX2_survey 78 = .ok (.ifCond .eq 12, 3) := by decide +kernel
theorem dX2_survey_81 : decode cX2_survey 81 = .ok (.aload_n 0, 1) := by decide +kernel
theorem dX2_survey_82 : decode cX2_survey 82 = .ok (.getfield 11, 3) := by decide +kernel
theorem dX2_survey_85 : decode cX2_survey 85 = .ok (.iload_n 3, 1) := by decide +kernel
theorem dX2_survey_86 : decode cX2_survey 86 = .ok (.iload_n 2, 1) := by decide +kernel
theorem dX2_survey_87 : decode cX2_survey 87 = .ok (.imul, 1) := by decide +kernel
theorem dX2_survey_88 : decode cX2_survey 88 = .ok (.iconst 1, 1) := by decide +kernel
theorem dX2_survey_89 : decode cX2_survey 89 = .ok (.bastore, 1) := by decide +kernel
theorem dX2_survey_90 : decode cX2_survey 90 = .ok (.iinc 3 1, 3) := by decide +kernel
theorem dX2_survey_93 : decode cX2_survey 93 = .ok (.goto (-38), 3) := by decide +kernel
theorem dX2_survey_96 : decode cX2_survey 96 = .ok (.aload_n 0, 1) := by decide +kernel
theorem dX2_survey_97 : decode cX2_survey 97 = .ok (.iconst 1, 1) := by decide +kernel
theorem dX2_survey_98 : decode cX2_survey 98 = .ok (.putfield 22, 3) := by decide +kernel
theorem dX2_survey_101 : decode cX2_survey 101 = .ok (.return_, 1) := by decide +kernel
theorem dX2_isLawful_0 : decode cX2_isLawful 0 = .ok (.iload_n 1, 1) := by decide +kernel
theorem dX2_isLawful_1 : decode cX2_isLawful 1 = .ok (.ifCond .lt 24, 3) := by decide +kernel
theorem dX2_isLawful_4 : decode cX2_isLawful 4 = .ok (.iload_n 1, 1) := by decide +kernel
theorem dX2_isLawful_5 : decode cX2_isLawful 5 = .ok (.sipush 6561, 3) := by decide +kernel
theorem dX2_isLawful_8 : decode cX2_isLawful 8 = .ok (.if_icmp .ge 17, 3) := by decide +kernel
theorem dX2_isLawful_11 : decode cX2_isLawful 11 = .ok (.aload_n 0, 1) := by decide +kernel
theorem dX2_isLawful_12 : decode cX2_isLawful 12 = .ok (.getfield 11, 3) := by decide +kernel
theorem dX2_isLawful_15 : decode cX2_isLawful 15 = .ok (.iload_n 1, 1) := by decide +kernel
theorem dX2_isLawful_16 : decode cX2_isLawful 16 = .ok (.baload, 1) := by decide +kernel
theorem dX2_isLawful_17 : decode cX2_isLawful 17 = .ok (.iconst 1, 1) := by decide +kernel
theorem dX2_isLawful_18 : decode cX2_isLawful 18 = .ok (.if_icmp .ne 7, 3) := by decide +kernel
theorem dX2_isLawful_21 : decode cX2_isLawful 21 = .ok (.iconst 1, 1) := by decide +kernel
theorem dX2_isLawful_22 : decode cX2_isLawful 22 = .ok (.goto 4, 3) := by decide +kernel
theorem dX2_isLawful_25 : decode cX2_isLawful 25 = .ok (.iconst 0, 1) := by decide +kernel
theorem dX2_isLawful_26 : decode cX2_isLawful 26 = .ok (.ireturn, 1) := by decide +kernel
theorem dX2_farTo_0 : decode cX2_farTo 0 = .ok (.iload_n 1, 1) := by decide +kernel
theorem dX2_farTo_1 : decode cX2_farTo 1 = .ok (.ifCond .lt 19, 3) := by decide +kernel
theorem dX2_farTo_4 : decode cX2_farTo 4 = .ok (.iload_n 1, 1) := by decide +kernel
theorem dX2_farTo_5 : decode cX2_farTo 5 = .ok (.sipush 6561, 3) := by decide +kernel
theorem dX2_farTo_8 : decode cX2_farTo 8 = .ok (.if_icmp .ge 12, 3) := by decide +kernel
theorem dX2_farTo_11 : decode cX2_farTo 11 = .ok (.aload_n 0, 1) := by decide +kernel
theorem dX2_farTo_12 : decode cX2_farTo 12 = .ok (.getfield 15, 3) := by decide +kernel
theorem dX2_farTo_15 : decode cX2_farTo 15 = .ok (.iload_n 1, 1) := by decide +kernel
theorem dX2_farTo_16 : decode cX2_farTo 16 = .ok (.iaload, 1) := by decide +kernel
theorem dX2_farTo_17 : decode cX2_farTo 17 = .ok (.goto 5, 3) := by decide +kernel
theorem dX2_farTo_20 : decode cX2_farTo 20 = .ok (.bipush (-9), 2) := by decide +kernel
theorem dX2_farTo_22 : decode cX2_farTo 22 = .ok (.ireturn, 1) := by decide +kernel
set_option maxRecDepth 20000 in
theorem ggX2_spreadFrom_X2_spread : GoodIn wsX2_spreadFrom wsX2_spread := goodIn_r _ [6, 7, 1, 8, 9, 10, 11, 5, 12, 13, 14, 15, 16, 17, 18, 19, 20, 21, 22, 23, 24, 25, 26, 27, 28, 29, 30, 31, 32, 33, 34, 35, 36, 37, 38, 39, 40, 41, 42, 43, 44, 45, 46, 47, 48, 49, 50] (by decide +kernel) (by decide +kernel)
set_option maxRecDepth 20000 in
theorem gX2_spreadFrom_X2_spread : GoodIn wsX2_spreadFrom (wsV RX2 40 RX2 yX2_spread wsX2_spread) := goodIn_app (goodIn_of _ (by decide +kernel)) ggX2_spreadFrom_X2_spread
theorem dX2_spreadFrom_0 : decode cX2_spreadFrom 0 = .ok (.aload_n 0, 1) := by decide +kernel
theorem dX2_spreadFrom_1 : decode cX2_spreadFrom 1 = .ok (.getfield 19, 3) := by decide +kernel
theorem dX2_spreadFrom_4 : decode cX2_spreadFrom 4 = .ok (.iconst 0, 1) := by decide +kernel
theorem dX2_spreadFrom_5 : decode cX2_spreadFrom 5 = .ok (.iload_n 2, 1) := by decide +kernel
theorem dX2_spreadFrom_6 : decode cX2_spreadFrom 6 = .ok (.iastore, 1) := by decide +kernel
theorem dX2_spreadFrom_7 : decode cX2_spreadFrom 7 = .ok (.aload_n 0, 1) := by decide +kernel
theorem dX2_spreadFrom_8 : decode cX2_spreadFrom 8 = .ok (.aload_n 1, 1) := by decide +kernel
theorem dX2_spreadFrom_9 : decode cX2_spreadFrom 9 = .ok (.iconst 1, 1) := by decide +kernel
theorem dX2_spreadFrom_10 : decode cX2_spreadFrom 10 = .ok (.sipush 6561, 3) := by decide +kernel
theorem dX2_spreadFrom_13 : decode cX2_spreadFrom 13 = .ok (.invokevirtual 40, 3) := by decide +kernel
theorem dX2_spreadFrom_16 : decode cX2_spreadFrom 16 = .ok (.return_, 1) := by decide +kernel
set_option maxRecDepth 20000 in
theorem ggX2_spread_X2_farTo : GoodIn wsX2_spread wsX2_farTo := goodIn_r _ [8, 1, 31, 32, 33, 34, 35] (by decide +kernel) (by decide +kernel)
set_option maxRecDepth 20000 in
theorem gX2_spread_X2_farTo : GoodIn wsX2_spread (wsV RX2 47 RX2 yX2_farTo wsX2_farTo) := goodIn_app (goodIn_of _ (by decide +kernel)) ggX2_spread_X2_farTo
set_option maxRecDepth 20000 in
theorem ggX2_spread_X2_spreadByOneAct : GoodIn wsX2_spread wsX2_spreadByOneAct := goodIn_r _ [12, 13, 14, 15, 16, 17, 18, 19, 20, 21, 22, 23, 24, 7, 25, 1, 3, 2, 26, 27, 28, 29, 30, 36, 37, 38, 39, 40, 41, 42, 43, 44, 45, 46, 31, 32, 33, 34, 35] (by decide +kernel) (by decide +kernel)
set_option maxRecDepth 20000 in
theorem gX2_spread_X2_spreadByOneAct : GoodIn wsX2_spread (wsV RX2 50 RX2 yX2_spreadByOneAct wsX2_spreadByOneAct) := goodIn_app (goodIn_of _ (by decide +kernel)) ggX2_spread_X2_spreadByOneAct
theorem dX2_spread_0 : decode cX2_spread 0 = .ok (.iconst 0, 1) := by decide +kernel
theorem dX2_spread_1 : decode cX2_spread 1 = .ok (.istore 4, 2) := by decide +kernel
theorem dX2_spread_3 : decode cX2_spread 3 = .ok (.iload 4, 2) := by decide +kernel
theorem dX2_spread_5 : decode cX2_spread 5 = .ok (.sipush 6561, 3) := by decide +kernel
theorem dX2_spread_8 : decode cX2_spread 8 = .ok (.if_icmp .ge 18, 3) := by decide +kernel
theorem dX2_spread_11 : decode cX2_spread 11 = .ok (.aload_n 0, 1) := by decide +kernel
theorem dX2_spread_12 : decode cX2_spread 12 = .ok (.getfield 15, 3) := by decide +kernel
theorem dX2_spread_15 : decode cX2_spread 15 = .ok (.iload 4, 2) := by decide +kernel
theorem dX2_spread_17 : decode cX2_spread 17 = .ok (.bipush (-9), 2) := by decide +kernel
theorem dX2_spread_19 : decode cX2_spread 19 = .ok (.iastore, 1) := by decide +kernel
theorem dX2_spread_20 : decode cX2_spread 20 = .ok (.iinc 4 1, 3) := by decide +kernel
theorem dX2_spread_23 : decode cX2_spread 23 = .ok (.goto (-20), 3) := by decide +kernel
theorem dX2_spread_26 : decode cX2_spread 26 = .ok (.iconst 0, 1) := by decide +kernel
theorem dX2_spread_27 : decode cX2_spread 27 = .ok (.istore 4, 2) := by decide +kernel
theorem dX2_spread_29 : decode cX2_spread 29 = .ok (.iload 4, 2) := by decide +kernel
theorem dX2_spread_31 : decode cX2_spread 31 = .ok (.iload_n 2, 1) := by decide +kernel
theorem dX2_spread_32 : decode cX2_spread 32 = .ok (.if_icmp .ge 47, 3) := by decide +kernel
theorem dX2_spread_35 : decode cX2_spread 35 = .ok (.iload 4, 2) := by decide +kernel
theorem dX2_spread_37 : decode cX2_spread 37 = .ok (.sipush 3394, 3) := by decide +kernel
theorem dX2_spread_40 : decode cX2_spread 40 = .ok (.if_icmp .ge 39, 3) := by decide +kernel
theorem dX2_spread_43 : decode cX2_spread 43 = .ok (.aload_n 0, 1) := by decide +kernel
theorem dX2_spread_44 : decode cX2_spread 44 = .ok (.getfield 19, 3) := by decide +kernel
theorem dX2_spread_47 : decode cX2_spread 47 = .ok (.iload 4, 2) := by decide +kernel
theorem dX2_spread_49 : decode cX2_spread 49 = .ok (.iaload, 1) := by decide +kernel
theorem dX2_spread_50 : decode cX2_spread 50 = .ok (.istore 5, 2) := by decide +kernel
theorem dX2_spread_52 : decode cX2_spread 52 = .ok (.iload 5, 2) := by decide +kernel
theorem dX2_spread_54 : decode cX2_spread 54 = .ok (.ifCond .lt 19, 3) := by decide +kernel
theorem dX2_spread_57 : decode cX2_spread 57 = .ok (.iload 5, 2) := by decide +kernel
theorem dX2_spread_59 : decode cX2_spread 59 = .ok (.sipush 6561, 3) := by decide +kernel
theorem dX2_spread_62 : decode cX2_spread 62 = .ok (.if_icmp .ge 11, 3) := by decide +kernel
theorem dX2_spread_65 : decode cX2_spread 65 = .ok (.aload_n 0, 1) := by decide +kernel
theorem dX2_spread_66 : decode cX2_spread 66 = .ok (.getfield 15, 3) := by decide +kernel
theorem dX2_spread_69 : decode cX2_spread 69 = .ok (.iload 5, 2) := by decide +kernel
theorem dX2_spread_71 : decode cX2_spread 71 = .ok (.iconst 0, 1) := by decide +kernel
theorem dX2_spread_72 : decode cX2_spread 72 = .ok (.iastore, 1) := by decide +kernel
theorem dX2_spread_73 : decode cX2_spread 73 = .ok (.iinc 4 1, 3) := by decide +kernel
theorem dX2_spread_76 : decode cX2_spread 76 = .ok (.goto (-47), 3) := by decide +kernel
theorem dX2_spread_79 : decode cX2_spread 79 = .ok (.aload_n 0, 1) := by decide +kernel
theorem dX2_spread_80 : decode cX2_spread 80 = .ok (.iload_n 2, 1) := by decide +kernel
theorem dX2_spread_81 : decode cX2_spread 81 = .ok (.putfield 44, 3) := by decide +kernel
theorem dX2_spread_84 : decode cX2_spread 84 = .ok (.iconst 0, 1) := by decide +kernel
theorem dX2_spread_85 : decode cX2_spread 85 = .ok (.istore 4, 2) := by decide +kernel
theorem dX2_spread_87 : decode cX2_spread 87 = .ok (.iload 4, 2) := by decide +kernel
theorem dX2_spread_89 : decode cX2_spread 89 = .ok (.aload_n 0, 1) := by decide +kernel
theorem dX2_spread_90 : decode cX2_spread 90 = .ok (.getfield 44, 3) := by decide +kernel
theorem dX2_spread_93 : decode cX2_spread 93 = .ok (.if_icmp .ge 52, 3) := by decide +kernel
theorem dX2_spread_96 : decode cX2_spread 96 = .ok (.iload 4, 2) := by decide +kernel
theorem dX2_spread_98 : decode cX2_spread 98 = .ok (.sipush 3394, 3) := by decide +kernel
theorem dX2_spread_101 : decode cX2_spread 101 = .ok (.if_icmp .ge 44, 3) := by decide +kernel
theorem dX2_spread_104 : decode cX2_spread 104 = .ok (.aload_n 0, 1) := by decide +kernel
theorem dX2_spread_105 : decode cX2_spread 105 = .ok (.getfield 19, 3) := by decide +kernel
theorem dX2_spread_108 : decode cX2_spread 108 = .ok (.iload 4, 2) := by decide +kernel
theorem dX2_spread_110 : decode cX2_spread 110 = .ok (.iaload, 1) := by decide +kernel
theorem dX2_spread_111 : decode cX2_spread 111 = .ok (.istore 5, 2) := by decide +kernel
theorem dX2_spread_113 : decode cX2_spread 113 = .ok (.aload_n 0, 1) := by decide +kernel
theorem dX2_spread_114 : decode cX2_spread 114 = .ok (.iload 5, 2) := by decide +kernel
theorem dX2_spread_116 : decode cX2_spread 116 = .ok (.invokevirtual 47, 3) := by decide +kernel
theorem dX2_spread_119 : decode cX2_spread 119 = .ok (.iload_n 3, 1) := by decide +kernel
theorem dX2_spread_120 : decode cX2_spread 120 = .ok (.if_icmp .lt 4, 3) := by decide +kernel
theorem dX2_spread_123 : decode cX2_spread 123 = .ok (.return_, 1) := by decide +kernel
theorem dX2_spread_124 : decode cX2_spread 124 = .ok (.aload_n 0, 1) := by decide +kernel
theorem dX2_spread_125 : decode cX2_spread 125 = .ok (.aload_n 1, 1) := by decide +kernel
theorem dX2_spread_126 : decode cX2_spread 126 = .ok (.iload 5, 2) := by decide +kernel
theorem dX2_spread_128 : decode cX2_spread 128 = .ok (.aload_n 0, 1) := by decide +kernel
theorem dX2_spread_129 : decode cX2_spread 129 = .ok (.iload 5, 2) := by decide +kernel
theorem dX2_spread_131 : decode cX2_spread 131 = .ok (.invokevirtual 47, 3) := by decide +kernel
theorem dX2_spread_134 : decode cX2_spread 134 = .ok (.iconst 1, 1) := by decide +kernel
theorem dX2_spread_135 : decode cX2_spread 135 = .ok (.iadd, 1) := by decide +kernel
theorem dX2_spread_136 : decode cX2_spread 136 = .ok (.invokevirtual 50, 3) := by decide +kernel
theorem dX2_spread_139 : decode cX2_spread 139 = .ok (.iinc 4 1, 3) := by decide +kernel
theorem dX2_spread_142 : decode cX2_spread 142 = .ok (.goto (-55), 3) := by decide +kernel
theorem dX2_spread_145 : decode cX2_spread 145 = .ok (.return_, 1) := by decide +kernel
set_option maxRecDepth 20000 in
theorem ggX2_spreadByOneAct_X4_placeIn : GoodIn wsX2_spreadByOneAct wsX4_placeIn := goodIn_r _ [3] (by decide +kernel) (by decide +kernel)
set_option maxRecDepth 20000 in
theorem gX2_spreadByOneAct_X4_placeIn_n53 : GoodIn wsX2_spreadByOneAct (wsX4_placeIn) := ggX2_spreadByOneAct_X4_placeIn
set_option maxRecDepth 20000 in
theorem ggX2_spreadByOneAct_X4_moved : GoodIn wsX2_spreadByOneAct wsX4_moved := goodIn_r _ [5, 6, 1, 2, 3, 7, 8, 9] (by decide +kernel) (by decide +kernel)
set_option maxRecDepth 20000 in
theorem gX2_spreadByOneAct_X4_moved_n57 : GoodIn wsX2_spreadByOneAct (wsX4_moved) := ggX2_spreadByOneAct_X4_moved
set_option maxRecDepth 20000 in
theorem ggX2_spreadByOneAct_X2_reach : GoodIn wsX2_spreadByOneAct wsX2_reach := goodIn_r _ [14, 15, 16, 17, 18, 19, 20, 13, 21, 22, 34, 35, 36, 37, 38] (by decide +kernel) (by decide +kernel)
set_option maxRecDepth 20000 in
theorem gX2_spreadByOneAct_X2_reach : GoodIn wsX2_spreadByOneAct (wsV RX2 61 RX2 yX2_reach wsX2_reach) := goodIn_app (goodIn_of _ (by decide +kernel)) ggX2_spreadByOneAct_X2_reach
theorem dX2_spreadByOneAct_0 : decode cX2_spreadByOneAct 0 = .ok (.iconst 0, 1) := by decide +kernel
theorem dX2_spreadByOneAct_1 : decode cX2_spreadByOneAct 1 = .ok (.istore 4, 2) := by decide +kernel
theorem dX2_spreadByOneAct_3 : decode cX2_spreadByOneAct 3 = .ok (.iload 4, 2) := by decide +kernel
theorem dX2_spreadByOneAct_5 : decode cX2_spreadByOneAct 5 = .ok (.aload_n 1, 1) := by decide +kernel
theorem dX2_spreadByOneAct_6 : decode cX2_spreadByOneAct 6 = .ok (.getfield 26, 3) := by decide +kernel
theorem dX2_spreadByOneAct_9 : decode cX2_spreadByOneAct 9 = .ok (.if_icmp .ge 65, 3) := by decide +kernel
theorem dX2_spreadByOneAct_12 : decode cX2_spreadByOneAct 12 = .ok (.iload_n 2, 1) := by decide +kernel
theorem dX2_spreadByOneAct_13 : decode cX2_spreadByOneAct 13 = .ok (.iload 4, 2) := by decide +kernel
theorem dX2_spreadByOneAct_15 : decode cX2_spreadByOneAct 15 = .ok (.invokestatic 53, 3) := by decide +kernel
theorem dX2_spreadByOneAct_18 : decode cX2_spreadByOneAct 18 = .ok (.bipush 8, 2) := by decide +kernel
theorem dX2_spreadByOneAct_20 : decode cX2_spreadByOneAct 20 = .ok (.if_icmp .eq 19, 3) := by decide +kernel
theorem dX2_spreadByOneAct_23 : decode cX2_spreadByOneAct 23 = .ok (.aload_n 0, 1) := by decide +kernel
theorem dX2_spreadByOneAct_24 : decode cX2_spreadByOneAct 24 = .ok (.iload_n 2, 1) := by decide +kernel
theorem dX2_spreadByOneAct_25 : decode cX2_spreadByOneAct 25 = .ok (.iload 4, 2) := by decide +kernel
theorem dX2_spreadByOneAct_27 : decode cX2_spreadByOneAct 27 = .ok (.bipush 8, 2) := by decide +kernel
theorem dX2_spreadByOneAct_29 : decode cX2_spreadByOneAct 29 = .ok (.invokestatic 57, 3) := by decide +kernel
theorem dX2_spreadByOneAct_32 : decode cX2_spreadByOneAct 32 = .ok (.iload_n 3, 1) := by decide +kernel
theorem dX2_spreadByOneAct_33 : decode cX2_spreadByOneAct 33 = .ok (.invokevirtual 61, 3) := by decide +kernel
theorem dX2_spreadByOneAct_36 : decode cX2_spreadByOneAct 36 = .ok (.goto 32, 3) := by decide +kernel
theorem dX2_spreadByOneAct_39 : decode cX2_spreadByOneAct 39 = .ok (.iconst 0, 1) := by decide +kernel
theorem dX2_spreadByOneAct_40 : decode cX2_spreadByOneAct 40 = .ok (.istore 5, 2) := by decide +kernel
theorem dX2_spreadByOneAct_42 : decode cX2_spreadByOneAct 42 = .ok (.iload 5, 2) := by decide +kernel
theorem dX2_spreadByOneAct_44 : decode cX2_spreadByOneAct 44 = .ok (.bipush 8, 2) := by decide +kernel
theorem dX2_spreadByOneAct_46 : decode cX2_spreadByOneAct 46 = .ok (.if_icmp .ge 22, 3) := by decide +kernel
theorem dX2_spreadByOneAct_49 : decode cX2_spreadByOneAct 49 = .ok (.aload_n 0, 1) := by decide +kernel
theorem dX2_spreadByOneAct_50 : decode cX2_spreadByOneAct 50 = .ok (.iload_n 2, 1) := by decide +kernel
theorem dX2_spreadByOneAct_51 : decode cX2_spreadByOneAct 51 = .ok (.iload 4, 2) := by decide +kernel
theorem dX2_spreadByOneAct_53 : decode cX2_spreadByOneAct 53 = .ok (.iload 5, 2) := by decide +kernel
theorem dX2_spreadByOneAct_55 : decode cX2_spreadByOneAct 55 = .ok (.invokestatic 57, 3) := by decide +kernel
theorem dX2_spreadByOneAct_58 : decode cX2_spreadByOneAct 58 = .ok (.iload_n 3, 1) := by decide +kernel
theorem dX2_spreadByOneAct_59 : decode cX2_spreadByOneAct 59 = .ok (.invokevirtual 61, 3) := by decide +kernel
theorem dX2_spreadByOneAct_62 : decode cX2_spreadByOneAct 62 = .ok (.iinc 5 1, 3) := by decide +kernel
theorem dX2_spreadByOneAct_65 : decode cX2_spreadByOneAct 65 = .ok (.goto (-23), 3) := by decide +kernel
theorem dX2_spreadByOneAct_68 : decode cX2_spreadByOneAct 68 = .ok (.iinc 4 1, 3) := by decide +kernel
theorem dX2_spreadByOneAct_71 : decode cX2_spreadByOneAct 71 = .ok (.goto (-68), 3) := by decide +kernel
theorem dX2_spreadByOneAct_74 : decode cX2_spreadByOneAct 74 = .ok (.return_, 1) := by decide +kernel
set_option maxRecDepth 20000 in
theorem ggX2_reach_X2_isLawful : GoodIn wsX2_reach wsX2_isLawful := goodIn_r _ [8, 9, 10, 11, 12, 13, 14] (by decide +kernel) (by decide +kernel)
set_option maxRecDepth 20000 in
theorem gX2_reach_X2_isLawful : GoodIn wsX2_reach (wsV RX2 65 RX2 yX2_isLawful wsX2_isLawful) := goodIn_app (goodIn_of _ (by decide +kernel)) ggX2_reach_X2_isLawful
theorem dX2_reach_0 : decode cX2_reach 0 = .ok (.aload_n 0, 1) := by decide +kernel
theorem dX2_reach_1 : decode cX2_reach 1 = .ok (.iload_n 1, 1) := by decide +kernel
theorem dX2_reach_2 : decode cX2_reach 2 = .ok (.invokevirtual 65, 3) := by decide +kernel
theorem dX2_reach_5 : decode cX2_reach 5 = .ok (.ifCond .eq 51, 3) := by decide +kernel
theorem dX2_reach_8 : decode cX2_reach 8 = .ok (.aload_n 0, 1) := by decide +kernel
theorem dX2_reach_9 : decode cX2_reach 9 = .ok (.getfield 15, 3) := by decide +kernel
theorem dX2_reach_12 : decode cX2_reach 12 = .ok (.iload_n 1, 1) := by decide +kernel
theorem dX2_reach_13 : decode cX2_reach 13 = .ok (.iaload, 1) := by decide +kernel
theorem dX2_reach_14 : decode cX2_reach 14 = .ok (.bipush (-9), 2) := by decide +kernel
theorem dX2_reach_16 : decode cX2_reach 16 = .ok (.if_icmp .ne 40, 3) := by decide +kernel
theorem dX2_reach_19 : decode cX2_reach 19 = .ok (.aload_n 0, 1) := by decide +kernel
theorem dX2_reach_20 : decode cX2_reach 20 = .ok (.getfield 44, 3) := by decide +kernel
theorem dX2_reach_23 : decode cX2_reach 23 = .ok (.sipush 3394, 3) := by decide +kernel
theorem dX2_reach_26 : decode cX2_reach 26 = .ok (.if_icmp .ge 30, 3) := by decide +kernel
theorem dX2_reach_29 : decode cX2_reach 29 = .ok (.aload_n 0, 1) := by decide +kernel
theorem dX2_reach_30 : decode cX2_reach 30 = .ok (.getfield 15, 3) := by decide +kernel
theorem dX2_reach_33 : decode cX2_reach 33 = .ok (.iload_n 1, 1) := by decide +kernel
theorem dX2_reach_34 : decode cX2_reach 34 = .ok (.iload_n 2, 1) := by decide +kernel
theorem dX2_reach_35 : decode cX2_reach 35 = .ok (.iastore, 1) := by decide +kernel
theorem dX2_reach_36 : decode cX2_reach 36 = .ok (.aload_n 0, 1) := by decide +kernel
theorem dX2_reach_37 : decode cX2_reach 37 = .ok (.getfield 19, 3) := by decide +kernel
theorem dX2_reach_40 : decode cX2_reach 40 = .ok (.aload_n 0, 1) := by decide +kernel
theorem dX2_reach_41 : decode cX2_reach 41 = .ok (.getfield 44, 3) := by decide +kernel
theorem dX2_reach_44 : decode cX2_reach 44 = .ok (.iload_n 1, 1) := by decide +kernel
theorem dX2_reach_45 : decode cX2_reach 45 = .ok (.iastore, 1) := by decide +kernel
theorem dX2_reach_46 : decode cX2_reach 46 = .ok (.aload_n 0, 1) := by decide +kernel
theorem dX2_reach_47 : decode cX2_reach 47 = .ok (.dup, 1) := by decide +kernel
theorem dX2_reach_48 : decode cX2_reach 48 = .ok (.getfield 44, 3) := by decide +kernel
theorem dX2_reach_51 : decode cX2_reach 51 = .ok (.iconst 1, 1) := by decide +kernel
theorem dX2_reach_52 : decode cX2_reach 52 = .ok (.iadd, 1) := by decide +kernel
theorem dX2_reach_53 : decode cX2_reach 53 = .ok (.putfield 44, 3) := by decide +kernel
theorem dX2_reach_56 : decode cX2_reach 56 = .ok (.return_, 1) := by decide +kernel
set_option maxRecDepth 20000 in
theorem ggX2_fewestActs_X2_survey : GoodIn wsX2_fewestActs wsX2_survey := goodIn_r _ [5, 6, 7, 8, 9, 10, 11, 12, 13, 14, 15, 16, 17, 18, 19, 20, 21, 22, 23, 24, 25, 26, 27, 28, 29, 30, 31, 32, 33, 34, 35, 36, 37, 38, 39, 40, 41, 42, 43, 44, 76, 77, 78, 79, 80, 81, 82, 83, 84, 85, 86, 87, 88, 89, 90, 91] (by decide +kernel) (by decide +kernel)
set_option maxRecDepth 20000 in
theorem gX2_fewestActs_X2_survey : GoodIn wsX2_fewestActs (wsV RX2 68 RX2 yX2_survey wsX2_survey) := goodIn_app (goodIn_of _ (by decide +kernel)) ggX2_fewestActs_X2_survey
set_option maxRecDepth 20000 in
theorem ggX2_fewestActs_X2_spreadFrom : GoodIn wsX2_fewestActs wsX2_spreadFrom := goodIn_r _ [48, 49, 50, 51, 52, 4, 53, 54, 55, 56, 57, 58, 59, 60, 61, 62, 63, 22, 9, 23, 64, 65, 66, 67, 8, 10, 68, 69, 70, 71, 72, 73, 74, 75, 7, 76, 77, 78, 79, 80, 81, 82, 83, 84, 85, 86, 87, 88, 89, 90, 91] (by decide +kernel) (by decide +kernel)
set_option maxRecDepth 20000 in
theorem gX2_fewestActs_X2_spreadFrom : GoodIn wsX2_fewestActs (wsV RX2 72 RX2 yX2_spreadFrom wsX2_spreadFrom) := goodIn_app (goodIn_of _ (by decide +kernel)) ggX2_fewestActs_X2_spreadFrom
set_option maxRecDepth 20000 in
theorem ggX2_fewestActs_X2_farTo : GoodIn wsX2_fewestActs wsX2_farTo := goodIn_r _ [59, 54, 76, 77, 78, 79, 80] (by decide +kernel) (by decide +kernel)
set_option maxRecDepth 20000 in
theorem gX2_fewestActs_X2_farTo : GoodIn wsX2_fewestActs (wsV RX2 47 RX2 yX2_farTo wsX2_farTo) := goodIn_app (goodIn_of _ (by decide +kernel)) ggX2_fewestActs_X2_farTo
theorem dX2_fewestActs_0 : decode cX2_fewestActs 0 = .ok (.aload_n 0, 1) := by decide +kernel
theorem dX2_fewestActs_1 : decode cX2_fewestActs 1 = .ok (.aload_n 1, 1) := by decide +kernel
theorem dX2_fewestActs_2 : decode cX2_fewestActs 2 = .ok (.invokevirtual 68, 3) := by decide +kernel
theorem dX2_fewestActs_5 : decode cX2_fewestActs 5 = .ok (.aload_n 0, 1) := by decide +kernel
theorem dX2_fewestActs_6 : decode cX2_fewestActs 6 = .ok (.aload_n 1, 1) := by decide +kernel
theorem dX2_fewestActs_7 : decode cX2_fewestActs 7 = .ok (.iload_n 2, 1) := by decide +kernel
theorem dX2_fewestActs_8 : decode cX2_fewestActs 8 = .ok (.invokevirtual 72, 3) := by decide +kernel
theorem dX2_fewestActs_11 : decode cX2_fewestActs 11 = .ok (.aload_n 0, 1) := by decide +kernel
theorem dX2_fewestActs_12 : decode cX2_fewestActs 12 = .ok (.iload_n 3, 1) := by decide +kernel
theorem dX2_fewestActs_13 : decode cX2_fewestActs 13 = .ok (.invokevirtual 47, 3) := by decide +kernel
theorem dX2_fewestActs_16 : decode cX2_fewestActs 16 = .ok (.ireturn, 1) := by decide +kernel
set_option maxRecDepth 20000 in
theorem ggX2_firstAct_X2_survey : GoodIn wsX2_firstAct wsX2_survey := goodIn_r _ [5, 6, 7, 8, 9, 10, 11, 12, 13, 14, 15, 16, 17, 18, 19, 20, 21, 22, 23, 24, 25, 26, 27, 28, 29, 30, 31, 32, 33, 34, 35, 36, 37, 38, 39, 40, 41, 42, 43, 44, 87, 88, 89, 90, 91, 76, 77, 78, 79, 80, 81, 82, 83, 84, 85, 86] (by decide +kernel) (by decide +kernel)
set_option maxRecDepth 20000 in
theorem gX2_firstAct_X2_survey : GoodIn wsX2_firstAct (wsV RX2 68 RX2 yX2_survey wsX2_survey) := goodIn_app (goodIn_of _ (by decide +kernel)) ggX2_firstAct_X2_survey
set_option maxRecDepth 20000 in
theorem ggX2_firstAct_X2_isLawful : GoodIn wsX2_firstAct wsX2_isLawful := goodIn_r _ [48, 7, 87, 88, 89, 90, 91] (by decide +kernel) (by decide +kernel)
set_option maxRecDepth 20000 in
theorem gX2_firstAct_X2_isLawful : GoodIn wsX2_firstAct (wsV RX2 65 RX2 yX2_isLawful wsX2_isLawful) := goodIn_app (goodIn_of _ (by decide +kernel)) ggX2_firstAct_X2_isLawful
set_option maxRecDepth 20000 in
theorem ggX2_firstAct_X2_spreadFrom : GoodIn wsX2_firstAct wsX2_spreadFrom := goodIn_r _ [52, 53, 54, 55, 56, 4, 57, 58, 59, 60, 61, 62, 63, 64, 65, 66, 67, 22, 9, 23, 68, 69, 70, 71, 8, 10, 72, 73, 74, 75, 45, 46, 47, 48, 7, 87, 88, 89, 90, 91, 76, 77, 78, 79, 80, 81, 82, 83, 84, 85, 86] (by decide +kernel) (by decide +kernel)
set_option maxRecDepth 20000 in
theorem gX2_firstAct_X2_spreadFrom : GoodIn wsX2_firstAct (wsV RX2 72 RX2 yX2_spreadFrom wsX2_spreadFrom) := goodIn_app (goodIn_of _ (by decide +kernel)) ggX2_firstAct_X2_spreadFrom
set_option maxRecDepth 20000 in
theorem ggX2_firstAct_X4_placeIn : GoodIn wsX2_firstAct wsX4_placeIn := goodIn_r _ [23] (by decide +kernel) (by decide +kernel)
set_option maxRecDepth 20000 in
theorem gX2_firstAct_X4_placeIn_n53 : GoodIn wsX2_firstAct (wsX4_placeIn) := ggX2_firstAct_X4_placeIn
set_option maxRecDepth 20000 in
theorem ggX2_firstAct_X4_moved : GoodIn wsX2_firstAct wsX4_moved := goodIn_r _ [69, 70, 22, 9, 23, 71, 8, 10] (by decide +kernel) (by decide +kernel)
set_option maxRecDepth 20000 in
theorem gX2_firstAct_X4_moved_n57 : GoodIn wsX2_firstAct (wsX4_moved) := ggX2_firstAct_X4_moved
set_option maxRecDepth 20000 in
theorem ggX2_firstAct_X2_farTo : GoodIn wsX2_firstAct wsX2_farTo := goodIn_r _ [63, 58, 87, 88, 89, 90, 91] (by decide +kernel) (by decide +kernel)
set_option maxRecDepth 20000 in
theorem gX2_firstAct_X2_farTo : GoodIn wsX2_firstAct (wsV RX2 47 RX2 yX2_farTo wsX2_farTo) := goodIn_app (goodIn_of _ (by decide +kernel)) ggX2_firstAct_X2_farTo
theorem dX2_firstAct_0 : decode cX2_firstAct 0 = .ok (.aload_n 0, 1) := by decide +kernel
theorem dX2_firstAct_1 : decode cX2_firstAct 1 = .ok (.aload_n 1, 1) := by decide +kernel
theorem dX2_firstAct_2 : decode cX2_firstAct 2 = .ok (.invokevirtual 68, 3) := by decide +kernel
theorem dX2_firstAct_5 : decode cX2_firstAct 5 = .ok (.iload_n 2, 1) := by decide +kernel
theorem dX2_firstAct_6 : decode cX2_firstAct 6 = .ok (.iload_n 3, 1) := by decide +kernel
theorem dX2_firstAct_7 : decode cX2_firstAct 7 = .ok (.if_icmp .eq 11, 3) := by decide +kernel
theorem dX2_firstAct_10 : decode cX2_firstAct 10 = .ok (.aload_n 0, 1) := by decide +kernel
theorem dX2_firstAct_11 : decode cX2_firstAct 11 = .ok (.iload_n 3, 1) := by decide +kernel
theorem dX2_firstAct_12 : decode cX2_firstAct 12 = .ok (.invokevirtual 65, 3) := by decide +kernel
theorem dX2_firstAct_15 : decode cX2_firstAct 15 = .ok (.ifCond .ne 6, 3) := by decide +kernel
theorem dX2_firstAct_18 : decode cX2_firstAct 18 = .ok (.bipush (-9), 2) := by decide +kernel
theorem dX2_firstAct_20 : decode cX2_firstAct 20 = .ok (.ireturn, 1) := by decide +kernel
theorem dX2_firstAct_21 : decode cX2_firstAct 21 = .ok (.aload_n 0, 1) := by decide +kernel
theorem dX2_firstAct_22 : decode cX2_firstAct 22 = .ok (.aload_n 1, 1) := by decide +kernel
theorem dX2_firstAct_23 : decode cX2_firstAct 23 = .ok (.iload_n 3, 1) := by decide +kernel
theorem dX2_firstAct_24 : decode cX2_firstAct 24 = .ok (.invokevirtual 72, 3) := by decide +kernel
theorem dX2_firstAct_27 : decode cX2_firstAct 27 = .ok (.sipush 6561, 3) := by decide +kernel
theorem dX2_firstAct_30 : decode cX2_firstAct 30 = .ok (.istore 4, 2) := by decide +kernel
theorem dX2_firstAct_32 : decode cX2_firstAct 32 = .ok (.bipush (-9), 2) := by decide +kernel
theorem dX2_firstAct_34 : decode cX2_firstAct 34 = .ok (.istore 5, 2) := by decide +kernel
theorem dX2_firstAct_36 : decode cX2_firstAct 36 = .ok (.iconst 0, 1) := by decide +kernel
theorem dX2_firstAct_37 : decode cX2_firstAct 37 = .ok (.istore 6, 2) := by decide +kernel
theorem dX2_firstAct_39 : decode cX2_firstAct 39 = .ok (.iload 6, 2) := by decide +kernel
theorem dX2_firstAct_41 : decode cX2_firstAct 41 = .ok (.aload_n 1, 1) := by decide +kernel
theorem dX2_firstAct_42 : decode cX2_firstAct 42 = .ok (.getfield 26, 3) := by decide +kernel
theorem dX2_firstAct_45 : decode cX2_firstAct 45 = .ok (.if_icmp .ge 113, 3) := by decide +kernel
theorem dX2_firstAct_48 : decode cX2_firstAct 48 = .ok (.iload_n 2, 1) := by decide +kernel
theorem dX2_firstAct_49 : decode cX2_firstAct 49 = .ok (.iload 6, 2) := by decide +kernel
theorem dX2_firstAct_51 : decode cX2_firstAct 51 = .ok (.invokestatic 53, 3) := by decide +kernel
theorem dX2_firstAct_54 : decode cX2_firstAct 54 = .ok (.bipush 8, 2) := by decide +kernel
theorem dX2_firstAct_56 : decode cX2_firstAct 56 = .ok (.if_icmp .ne 7, 3) := by decide +kernel
theorem dX2_firstAct_59 : decode cX2_firstAct 59 = .ok (.iconst 1, 1) := by decide +kernel
theorem dX2_firstAct_60 : decode cX2_firstAct 60 = .ok (.goto 4, 3) := by decide +kernel
theorem dX2_firstAct_63 : decode cX2_firstAct 63 = .ok (.iconst 0, 1) := by decide +kernel
theorem dX2_firstAct_64 : decode cX2_firstAct 64 = .ok (.istore 7, 2) := by decide +kernel
theorem dX2_firstAct_66 : decode cX2_firstAct 66 = .ok (.iload 7, 2) := by decide +kernel
theorem dX2_firstAct_68 : decode cX2_firstAct 68 = .ok (.ifCond .eq 7, 3) := by decide +kernel
theorem dX2_firstAct_71 : decode cX2_firstAct 71 = .ok (.iconst 0, 1) := by decide +kernel
theorem dX2_firstAct_72 : decode cX2_firstAct 72 = .ok (.goto 5, 3) := by decide +kernel
theorem dX2_firstAct_75 : decode cX2_firstAct 75 = .ok (.bipush 8, 2) := by decide +kernel
theorem dX2_firstAct_77 : decode cX2_firstAct 77 = .ok (.istore 8, 2) := by decide +kernel
theorem dX2_firstAct_79 : decode cX2_firstAct 79 = .ok (.iload 7, 2) := by decide +kernel
theorem dX2_firstAct_81 : decode cX2_firstAct 81 = .ok (.ifCond .eq 8, 3) := by decide +kernel
theorem dX2_firstAct_84 : decode cX2_firstAct 84 = .ok (.bipush 7, 2) := by decide +kernel
theorem dX2_firstAct_86 : decode cX2_firstAct 86 = .ok (.goto 5, 3) := by decide +kernel
theorem dX2_firstAct_89 : decode cX2_firstAct 89 = .ok (.bipush 8, 2) := by decide +kernel
theorem dX2_firstAct_91 : decode cX2_firstAct 91 = .ok (.istore 9, 2) := by decide +kernel
theorem dX2_firstAct_93 : decode cX2_firstAct 93 = .ok (.iload 8, 2) := by decide +kernel
theorem dX2_firstAct_95 : decode cX2_firstAct 95 = .ok (.istore 10, 2) := by decide +kernel
theorem dX2_firstAct_97 : decode cX2_firstAct 97 = .ok (.iload 10, 2) := by decide +kernel
theorem dX2_firstAct_99 : decode cX2_firstAct 99 = .ok (.iload 9, 2) := by decide +kernel
theorem dX2_firstAct_101 : decode cX2_firstAct 101 = .ok (.if_icmp .gt 51, 3) := by decide +kernel
theorem dX2_firstAct_104 : decode cX2_firstAct 104 = .ok (.aload_n 0, 1) := by decide +kernel
theorem dX2_firstAct_105 : decode cX2_firstAct 105 = .ok (.iload_n 2, 1) := by decide +kernel
theorem dX2_firstAct_106 : decode cX2_firstAct 106 = .ok (.iload 6, 2) := by decide +kernel
theorem dX2_firstAct_108 : decode cX2_firstAct 108 = .ok (.iload 10, 2) := by decide +kernel
theorem dX2_firstAct_110 : decode cX2_firstAct 110 = .ok (.invokestatic 57, 3) := by decide +kernel
theorem dX2_firstAct_113 : decode cX2_firstAct 113 = .ok (.invokevirtual 47, 3) := by decide +kernel
theorem dX2_firstAct_116 : decode cX2_firstAct 116 = .ok (.istore 11, 2) := by decide +kernel
theorem dX2_firstAct_118 : decode cX2_firstAct 118 = .ok (.iload 11, 2) := by decide +kernel
theorem dX2_firstAct_120 : decode cX2_firstAct 120 = .ok (.bipush (-9), 2) := by decide +kernel
theorem dX2_firstAct_122 : decode cX2_firstAct 122 = .ok (.if_icmp .eq 24, 3) := by decide +kernel
theorem dX2_firstAct_125 : decode cX2_firstAct 125 = .ok (.iload 11, 2) := by decide +kernel
theorem dX2_firstAct_127 : decode cX2_firstAct 127 = .ok (.iload 4, 2) := by decide +kernel
theorem dX2_firstAct_129 : decode cX2_firstAct 129 = .ok (.if_icmp .ge 17, 3) := by decide +kernel
theorem dX2_firstAct_132 : decode cX2_firstAct 132 = .ok (.iload 11, 2) := by decide +kernel
theorem dX2_firstAct_134 : decode cX2_firstAct 134 = .ok (.istore 4, 2) := by decide +kernel
theorem dX2_firstAct_136 : decode cX2_firstAct 136 = .ok (.bipush 10, 2) := by decide +kernel
theorem dX2_firstAct_138 : decode cX2_firstAct 138 = .ok (.iload 6, 2) := by decide +kernel
theorem dX2_firstAct_140 : decode cX2_firstAct 140 = .ok (.imul, 1) := by decide +kernel
theorem dX2_firstAct_141 : decode cX2_firstAct 141 = .ok (.iload 10, 2) := by decide +kernel
theorem dX2_firstAct_143 : decode cX2_firstAct 143 = .ok (.iadd, 1) := by decide +kernel
theorem dX2_firstAct_144 : decode cX2_firstAct 144 = .ok (.istore 5, 2) := by decide +kernel
theorem dX2_firstAct_146 : decode cX2_firstAct 146 = .ok (.iinc 10 1, 3) := by decide +kernel
theorem dX2_firstAct_149 : decode cX2_firstAct 149 = .ok (.goto (-52), 3) := by decide +kernel
theorem dX2_firstAct_152 : decode cX2_firstAct 152 = .ok (.iinc 6 1, 3) := by decide +kernel
theorem dX2_firstAct_155 : decode cX2_firstAct 155 = .ok (.goto (-116), 3) := by decide +kernel
theorem dX2_firstAct_158 : decode cX2_firstAct 158 = .ok (.iload 5, 2) := by decide +kernel
theorem dX2_firstAct_160 : decode cX2_firstAct 160 = .ok (.ireturn, 1) := by decide +kernel
set_option maxRecDepth 20000 in
theorem ggX2_fewestNights_X2_survey : GoodIn wsX2_fewestNights wsX2_survey := goodIn_r _ [6, 7, 8, 9, 10, 11, 12, 13, 14, 15, 16, 17, 18, 19, 20, 21, 22, 23, 24, 25, 26, 27, 28, 29, 30, 31, 32, 33, 34, 35, 36, 37, 38, 39, 40, 41, 42, 43, 44, 45, 80, 81, 82, 83, 84, 93, 94, 95, 96, 97, 98, 99, 100, 101, 102, 103] (by decide +kernel) (by decide +kernel)
set_option maxRecDepth 20000 in
theorem gX2_fewestNights_X2_survey : GoodIn wsX2_fewestNights (wsV RX2 68 RX2 yX2_survey wsX2_survey) := goodIn_app (goodIn_of _ (by decide +kernel)) ggX2_fewestNights_X2_survey
set_option maxRecDepth 20000 in
theorem ggX2_fewestNights_X2_spread : GoodIn wsX2_fewestNights wsX2_spread := goodIn_r _ [49, 50, 1, 51, 52, 53, 54, 5, 55, 56, 57, 58, 59, 23, 10, 24, 60, 61, 62, 63, 9, 11, 64, 65, 66, 67, 68, 69, 70, 71, 8, 80, 81, 82, 83, 84, 93, 94, 95, 96, 97, 98, 99, 100, 101, 102, 103] (by decide +kernel) (by decide +kernel)
set_option maxRecDepth 20000 in
theorem gX2_fewestNights_X2_spread : GoodIn wsX2_fewestNights (wsV RX2 40 RX2 yX2_spread wsX2_spread) := goodIn_app (goodIn_of _ (by decide +kernel)) ggX2_fewestNights_X2_spread
set_option maxRecDepth 20000 in
theorem ggX2_fewestNights_X2_farTo : GoodIn wsX2_fewestNights wsX2_farTo := goodIn_r _ [55, 50, 80, 81, 82, 83, 84] (by decide +kernel) (by decide +kernel)
set_option maxRecDepth 20000 in
theorem gX2_fewestNights_X2_farTo : GoodIn wsX2_fewestNights (wsV RX2 47 RX2 yX2_farTo wsX2_farTo) := goodIn_app (goodIn_of _ (by decide +kernel)) ggX2_fewestNights_X2_farTo
set_option maxRecDepth 20000 in
theorem ggX2_fewestNights_X2_keepDry : GoodIn wsX2_fewestNights wsX2_keepDry := goodIn_r _ [75, 51, 1, 76, 13, 77, 78, 79, 25, 26, 27, 28, 17, 29, 23, 10, 24, 30, 31, 32, 33, 34, 35, 36, 80, 81, 82, 83, 84, 93, 94, 95, 96, 97, 98, 99, 100, 101, 102, 103] (by decide +kernel) (by decide +kernel)
set_option maxRecDepth 20000 in
theorem gX2_fewestNights_X2_keepDry : GoodIn wsX2_fewestNights (wsV RX2 90 RX2 yX2_keepDry wsX2_keepDry) := goodIn_app (goodIn_of _ (by decide +kernel)) ggX2_fewestNights_X2_keepDry
theorem dX2_fewestNights_0 : decode cX2_fewestNights 0 = .ok (.aload_n 0, 1) := by decide +kernel
theorem dX2_fewestNights_1 : decode cX2_fewestNights 1 = .ok (.aload_n 1, 1) := by decide +kernel
theorem dX2_fewestNights_2 : decode cX2_fewestNights 2 = .ok (.invokevirtual 68, 3) := by decide +kernel
theorem dX2_fewestNights_5 : decode cX2_fewestNights 5 = .ok (.aload_n 0, 1) := by decide +kernel
theorem dX2_fewestNights_6 : decode cX2_fewestNights 6 = .ok (.getfield 19, 3) := by decide +kernel
theorem dX2_fewestNights_9 : decode cX2_fewestNights 9 = .ok (.iconst 0, 1) := by decide +kernel
theorem dX2_fewestNights_10 : decode cX2_fewestNights 10 = .ok (.aload_n 2, 1) := by decide +kernel
theorem dX2_fewestNights_11 : decode cX2_fewestNights 11 = .ok (.getfield 76, 3) := by decide +kernel
theorem dX2_fewestNights_14 : decode cX2_fewestNights 14 = .ok (.iastore, 1) := by decide +kernel
theorem dX2_fewestNights_15 : decode cX2_fewestNights 15 = .ok (.aload_n 0, 1) := by decide +kernel
theorem dX2_fewestNights_16 : decode cX2_fewestNights 16 = .ok (.aload_n 1, 1) := by decide +kernel
theorem dX2_fewestNights_17 : decode cX2_fewestNights 17 = .ok (.iconst 1, 1) := by decide +kernel
theorem dX2_fewestNights_18 : decode cX2_fewestNights 18 = .ok (.aload_n 1, 1) := by decide +kernel
theorem dX2_fewestNights_19 : decode cX2_fewestNights 19 = .ok (.getfield 81, 3) := by decide +kernel
theorem dX2_fewestNights_22 : decode cX2_fewestNights 22 = .ok (.aload_n 2, 1) := by decide +kernel
theorem dX2_fewestNights_23 : decode cX2_fewestNights 23 = .ok (.getfield 84, 3) := by decide +kernel
theorem dX2_fewestNights_26 : decode cX2_fewestNights 26 = .ok (.isub, 1) := by decide +kernel
theorem dX2_fewestNights_27 : decode cX2_fewestNights 27 = .ok (.invokevirtual 40, 3) := by decide +kernel
theorem dX2_fewestNights_30 : decode cX2_fewestNights 30 = .ok (.iconst 0, 1) := by decide +kernel
theorem dX2_fewestNights_31 : decode cX2_fewestNights 31 = .ok (.istore 4, 2) := by decide +kernel
theorem dX2_fewestNights_33 : decode cX2_fewestNights 33 = .ok (.iconst 0, 1) := by decide +kernel
theorem dX2_fewestNights_34 : decode cX2_fewestNights 34 = .ok (.istore 5, 2) := by decide +kernel
theorem dX2_fewestNights_36 : decode cX2_fewestNights 36 = .ok (.iload 5, 2) := by decide +kernel
theorem dX2_fewestNights_38 : decode cX2_fewestNights 38 = .ok (.bipush 20, 2) := by decide +kernel
theorem dX2_fewestNights_40 : decode cX2_fewestNights 40 = .ok (.if_icmp .gt 67, 3) := by decide +kernel
theorem dX2_fewestNights_43 : decode cX2_fewestNights 43 = .ok (.aload_n 2, 1) := by decide +kernel
theorem dX2_fewestNights_44 : decode cX2_fewestNights 44 = .ok (.getfield 87, 3) := by decide +kernel
theorem dX2_fewestNights_47 : decode cX2_fewestNights 47 = .ok (.iload 5, 2) := by decide +kernel
theorem dX2_fewestNights_49 : decode cX2_fewestNights 49 = .ok (.iadd, 1) := by decide +kernel
theorem dX2_fewestNights_50 : decode cX2_fewestNights 50 = .ok (.sipush 999, 3) := by decide +kernel
theorem dX2_fewestNights_53 : decode cX2_fewestNights 53 = .ok (.if_icmp .gt 54, 3) := by decide +kernel
theorem dX2_fewestNights_56 : decode cX2_fewestNights 56 = .ok (.aload_n 0, 1) := by decide +kernel
theorem dX2_fewestNights_57 : decode cX2_fewestNights 57 = .ok (.iload_n 3, 1) := by decide +kernel
theorem dX2_fewestNights_58 : decode cX2_fewestNights 58 = .ok (.invokevirtual 47, 3) := by decide +kernel
theorem dX2_fewestNights_61 : decode cX2_fewestNights 61 = .ok (.bipush (-9), 2) := by decide +kernel
theorem dX2_fewestNights_63 : decode cX2_fewestNights 63 = .ok (.if_icmp .eq 6, 3) := by decide +kernel
theorem dX2_fewestNights_66 : decode cX2_fewestNights 66 = .ok (.iload 5, 2) := by decide +kernel
theorem dX2_fewestNights_68 : decode cX2_fewestNights 68 = .ok (.ireturn, 1) := by decide +kernel
theorem dX2_fewestNights_69 : decode cX2_fewestNights 69 = .ok (.aload_n 0, 1) := by decide +kernel
theorem dX2_fewestNights_70 : decode cX2_fewestNights 70 = .ok (.aload_n 1, 1) := by decide +kernel
theorem dX2_fewestNights_71 : decode cX2_fewestNights 71 = .ok (.invokevirtual 90, 3) := by decide +kernel
theorem dX2_fewestNights_74 : decode cX2_fewestNights 74 = .ok (.istore 6, 2) := by decide +kernel
theorem dX2_fewestNights_76 : decode cX2_fewestNights 76 = .ok (.iload 6, 2) := by decide +kernel
theorem dX2_fewestNights_78 : decode cX2_fewestNights 78 = .ok (.iload 4, 2) := by decide +kernel
theorem dX2_fewestNights_80 : decode cX2_fewestNights 80 = .ok (.if_icmp .ne 6, 3) := by decide +kernel
theorem dX2_fewestNights_83 : decode cX2_fewestNights 83 = .ok (.bipush (-9), 2) := by decide +kernel
theorem dX2_fewestNights_85 : decode cX2_fewestNights 85 = .ok (.ireturn, 1) := by decide +kernel
theorem dX2_fewestNights_86 : decode cX2_fewestNights 86 = .ok (.iload 6, 2) := by decide +kernel
theorem dX2_fewestNights_88 : decode cX2_fewestNights 88 = .ok (.istore 4, 2) := by decide +kernel
theorem dX2_fewestNights_90 : decode cX2_fewestNights 90 = .ok (.aload_n 0, 1) := by decide +kernel
theorem dX2_fewestNights_91 : decode cX2_fewestNights 91 = .ok (.aload_n 1, 1) := by decide +kernel
theorem dX2_fewestNights_92 : decode cX2_fewestNights 92 = .ok (.iload 4, 2) := by decide +kernel
theorem dX2_fewestNights_94 : decode cX2_fewestNights 94 = .ok (.aload_n 1, 1) := by decide +kernel
theorem dX2_fewestNights_95 : decode cX2_fewestNights 95 = .ok (.getfield 81, 3) := by decide +kernel
theorem dX2_fewestNights_98 : decode cX2_fewestNights 98 = .ok (.invokevirtual 40, 3) := by decide +kernel
theorem dX2_fewestNights_101 : decode cX2_fewestNights 101 = .ok (.iinc 5 1, 3) := by decide +kernel
theorem dX2_fewestNights_104 : decode cX2_fewestNights 104 = .ok (.goto (-68), 3) := by decide +kernel
theorem dX2_fewestNights_107 : decode cX2_fewestNights 107 = .ok (.bipush (-9), 2) := by decide +kernel
theorem dX2_fewestNights_109 : decode cX2_fewestNights 109 = .ok (.ireturn, 1) := by decide +kernel
set_option maxRecDepth 20000 in
theorem ggX2_keepDry_X1_leaksOf : GoodIn wsX2_keepDry wsX1_leaksOf := goodIn_r _ [6, 7, 8, 9, 10, 4, 11, 12, 13, 14, 15, 16, 17, 18, 19, 20, 21, 22, 23, 29, 30, 31, 32, 33, 34, 35, 36, 37, 38, 39] (by decide +kernel) (by decide +kernel)
set_option maxRecDepth 20000 in
theorem gX2_keepDry_X1_leaksOf_n94 : GoodIn wsX2_keepDry (wsX1_leaksOf) := ggX2_keepDry_X1_leaksOf
theorem dX2_keepDry_0 : decode cX2_keepDry 0 = .ok (.iconst 0, 1) := by decide +kernel
theorem dX2_keepDry_1 : decode cX2_keepDry 1 = .ok (.istore_n 2, 1) := by decide +kernel
theorem dX2_keepDry_2 : decode cX2_keepDry 2 = .ok (.iconst 0, 1) := by decide +kernel
theorem dX2_keepDry_3 : decode cX2_keepDry 3 = .ok (.istore_n 3, 1) := by decide +kernel
theorem dX2_keepDry_4 : decode cX2_keepDry 4 = .ok (.iload_n 3, 1) := by decide +kernel
theorem dX2_keepDry_5 : decode cX2_keepDry 5 = .ok (.aload_n 0, 1) := by decide +kernel
theorem dX2_keepDry_6 : decode cX2_keepDry 6 = .ok (.getfield 44, 3) := by decide +kernel
theorem dX2_keepDry_9 : decode cX2_keepDry 9 = .ok (.if_icmp .ge 44, 3) := by decide +kernel
theorem dX2_keepDry_12 : decode cX2_keepDry 12 = .ok (.iload_n 3, 1) := by decide +kernel
theorem dX2_keepDry_13 : decode cX2_keepDry 13 = .ok (.sipush 3394, 3) := by decide +kernel
theorem dX2_keepDry_16 : decode cX2_keepDry 16 = .ok (.if_icmp .ge 37, 3) := by decide +kernel
theorem dX2_keepDry_19 : decode cX2_keepDry 19 = .ok (.aload_n 1, 1) := by decide +kernel
theorem dX2_keepDry_20 : decode cX2_keepDry 20 = .ok (.aload_n 0, 1) := by decide +kernel
theorem dX2_keepDry_21 : decode cX2_keepDry 21 = .ok (.getfield 19, 3) := by decide +kernel
theorem dX2_keepDry_24 : decode cX2_keepDry 24 = .ok (.iload_n 3, 1) := by decide +kernel
theorem dX2_keepDry_25 : decode cX2_keepDry 25 = .ok (.iaload, 1) := by decide +kernel
theorem dX2_keepDry_26 : decode cX2_keepDry 26 = .ok (.invokevirtual 94, 3) := by decide +kernel
theorem dX2_keepDry_29 : decode cX2_keepDry 29 = .ok (.ifCond .ne 18, 3) := by decide +kernel
theorem dX2_keepDry_32 : decode cX2_keepDry 32 = .ok (.aload_n 0, 1) := by decide +kernel
theorem dX2_keepDry_33 : decode cX2_keepDry 33 = .ok (.getfield 19, 3) := by decide +kernel
theorem dX2_keepDry_36 : decode cX2_keepDry 36 = .ok (.iload_n 2, 1) := by decide +kernel
theorem dX2_keepDry_37 : decode cX2_keepDry 37 = .ok (.aload_n 0, 1) := by decide +kernel
theorem dX2_keepDry_38 : decode cX2_keepDry 38 = .ok (.getfield 19, 3) := by decide +kernel
theorem dX2_keepDry_41 : decode cX2_keepDry 41 = .ok (.iload_n 3, 1) := by decide +kernel
theorem dX2_keepDry_42 : decode cX2_keepDry 42 = .ok (.iaload, 1) := by decide +kernel
theorem dX2_keepDry_43 : decode cX2_keepDry 43 = .ok (.iastore, 1) := by decide +kernel
theorem dX2_keepDry_44 : decode cX2_keepDry 44 = .ok (.iinc 2 1, 3) := by decide +kernel
theorem dX2_keepDry_47 : decode cX2_keepDry 47 = .ok (.iinc 3 1, 3) := by decide +kernel
theorem dX2_keepDry_50 : decode cX2_keepDry 50 = .ok (.goto (-46), 3) := by decide +kernel
theorem dX2_keepDry_53 : decode cX2_keepDry 53 = .ok (.iload_n 2, 1) := by decide +kernel
theorem dX2_keepDry_54 : decode cX2_keepDry 54 = .ok (.ireturn, 1) := by decide +kernel
set_option maxRecDepth 20000 in
theorem ggX2_actsToEmpty_X2_survey : GoodIn wsX2_actsToEmpty wsX2_survey := goodIn_r _ [7, 8, 9, 10, 11, 12, 13, 14, 15, 16, 17, 18, 19, 20, 21, 22, 23, 24, 25, 26, 27, 28, 29, 30, 31, 32, 33, 34, 35, 36, 37, 38, 39, 40, 41, 42, 43, 44, 45, 46, 76, 77, 78, 79, 80, 81, 82, 83, 84, 85, 86, 87, 88, 89, 90, 91] (by decide +kernel) (by decide +kernel)
set_option maxRecDepth 20000 in
theorem gX2_actsToEmpty_X2_survey : GoodIn wsX2_actsToEmpty (wsV RX2 68 RX2 yX2_survey wsX2_survey) := goodIn_app (goodIn_of _ (by decide +kernel)) ggX2_actsToEmpty_X2_survey
set_option maxRecDepth 20000 in
theorem ggX2_actsToEmpty_X2_spreadFrom : GoodIn wsX2_actsToEmpty wsX2_spreadFrom := goodIn_r _ [50, 2, 51, 52, 53, 6, 54, 55, 1, 56, 57, 58, 59, 60, 61, 62, 63, 24, 11, 25, 64, 65, 66, 67, 10, 12, 68, 69, 70, 71, 72, 73, 74, 75, 9, 76, 77, 78, 79, 80, 81, 82, 83, 84, 85, 86, 87, 88, 89, 90, 91] (by decide +kernel) (by decide +kernel)
set_option maxRecDepth 20000 in
theorem gX2_actsToEmpty_X2_spreadFrom : GoodIn wsX2_actsToEmpty (wsV RX2 72 RX2 yX2_spreadFrom wsX2_spreadFrom) := goodIn_app (goodIn_of _ (by decide +kernel)) ggX2_actsToEmpty_X2_spreadFrom
set_option maxRecDepth 20000 in
theorem ggX2_actsToEmpty_X1_slotsUnder : GoodIn wsX2_actsToEmpty wsX1_slotsUnder := goodIn_r _ [29, 18, 30, 24, 11, 25, 81, 82, 83, 84, 85, 86, 87, 88, 89, 90, 91] (by decide +kernel) (by decide +kernel)
set_option maxRecDepth 20000 in
theorem gX2_actsToEmpty_X1_slotsUnder_n97 : GoodIn wsX2_actsToEmpty (wsX1_slotsUnder) := ggX2_actsToEmpty_X1_slotsUnder
set_option maxRecDepth 20000 in
theorem ggX2_actsToEmpty_X2_farTo : GoodIn wsX2_actsToEmpty wsX2_farTo := goodIn_r _ [59, 55, 76, 77, 78, 79, 80] (by decide +kernel) (by decide +kernel)
set_option maxRecDepth 20000 in
theorem gX2_actsToEmpty_X2_farTo : GoodIn wsX2_actsToEmpty (wsV RX2 47 RX2 yX2_farTo wsX2_farTo) := goodIn_app (goodIn_of _ (by decide +kernel)) ggX2_actsToEmpty_X2_farTo
theorem dX2_actsToEmpty_0 : decode cX2_actsToEmpty 0 = .ok (.aload_n 0, 1) := by decide +kernel
theorem dX2_actsToEmpty_1 : decode cX2_actsToEmpty 1 = .ok (.aload_n 1, 1) := by decide +kernel
theorem dX2_actsToEmpty_2 : decode cX2_actsToEmpty 2 = .ok (.invokevirtual 68, 3) := by decide +kernel
theorem dX2_actsToEmpty_5 : decode cX2_actsToEmpty 5 = .ok (.aload_n 0, 1) := by decide +kernel
theorem dX2_actsToEmpty_6 : decode cX2_actsToEmpty 6 = .ok (.aload_n 1, 1) := by decide +kernel
theorem dX2_actsToEmpty_7 : decode cX2_actsToEmpty 7 = .ok (.iload_n 2, 1) := by decide +kernel
theorem dX2_actsToEmpty_8 : decode cX2_actsToEmpty 8 = .ok (.invokevirtual 72, 3) := by decide +kernel
theorem dX2_actsToEmpty_11 : decode cX2_actsToEmpty 11 = .ok (.iconst 0, 1) := by decide +kernel
theorem dX2_actsToEmpty_12 : decode cX2_actsToEmpty 12 = .ok (.istore 4, 2) := by decide +kernel
theorem dX2_actsToEmpty_14 : decode cX2_actsToEmpty 14 = .ok (.iload 4, 2) := by decide +kernel
theorem dX2_actsToEmpty_16 : decode cX2_actsToEmpty 16 = .ok (.aload_n 0, 1) := by decide +kernel
theorem dX2_actsToEmpty_17 : decode cX2_actsToEmpty 17 = .ok (.getfield 44, 3) := by decide +kernel
theorem dX2_actsToEmpty_20 : decode cX2_actsToEmpty 20 = .ok (.if_icmp .ge 47, 3) := by decide +kernel
theorem dX2_actsToEmpty_23 : decode cX2_actsToEmpty 23 = .ok (.iload 4, 2) := by decide +kernel
theorem dX2_actsToEmpty_25 : decode cX2_actsToEmpty 25 = .ok (.sipush 3394, 3) := by decide +kernel
theorem dX2_actsToEmpty_28 : decode cX2_actsToEmpty 28 = .ok (.if_icmp .ge 39, 3) := by decide +kernel
theorem dX2_actsToEmpty_31 : decode cX2_actsToEmpty 31 = .ok (.aload_n 1, 1) := by decide +kernel
theorem dX2_actsToEmpty_32 : decode cX2_actsToEmpty 32 = .ok (.aload_n 0, 1) := by decide +kernel
theorem dX2_actsToEmpty_33 : decode cX2_actsToEmpty 33 = .ok (.getfield 19, 3) := by decide +kernel
theorem dX2_actsToEmpty_36 : decode cX2_actsToEmpty 36 = .ok (.iload 4, 2) := by decide +kernel
theorem dX2_actsToEmpty_38 : decode cX2_actsToEmpty 38 = .ok (.iaload, 1) := by decide +kernel
theorem dX2_actsToEmpty_39 : decode cX2_actsToEmpty 39 = .ok (.bipush 15, 2) := by decide +kernel
theorem dX2_actsToEmpty_41 : decode cX2_actsToEmpty 41 = .ok (.invokevirtual 97, 3) := by decide +kernel
theorem dX2_actsToEmpty_44 : decode cX2_actsToEmpty 44 = .ok (.iload_n 3, 1) := by decide +kernel
theorem dX2_actsToEmpty_45 : decode cX2_actsToEmpty 45 = .ok (.iand, 1) := by decide +kernel
theorem dX2_actsToEmpty_46 : decode cX2_actsToEmpty 46 = .ok (.ifCond .ne 15, 3) := by decide +kernel
theorem dX2_actsToEmpty_49 : decode cX2_actsToEmpty 49 = .ok (.aload_n 0, 1) := by decide +kernel
theorem dX2_actsToEmpty_50 : decode cX2_actsToEmpty 50 = .ok (.aload_n 0, 1) := by decide +kernel
theorem dX2_actsToEmpty_51 : decode cX2_actsToEmpty 51 = .ok (.getfield 19, 3) := by decide +kernel
theorem dX2_actsToEmpty_54 : decode cX2_actsToEmpty 54 = .ok (.iload 4, 2) := by decide +kernel
theorem dX2_actsToEmpty_56 : decode cX2_actsToEmpty 56 = .ok (.iaload, 1) := by decide +kernel
theorem dX2_actsToEmpty_57 : decode cX2_actsToEmpty 57 = .ok (.invokevirtual 47, 3) := by decide +kernel
theorem dX2_actsToEmpty_60 : decode cX2_actsToEmpty 60 = .ok (.ireturn, 1) := by decide +kernel
theorem dX2_actsToEmpty_61 : decode cX2_actsToEmpty 61 = .ok (.iinc 4 1, 3) := by decide +kernel
theorem dX2_actsToEmpty_64 : decode cX2_actsToEmpty 64 = .ok (.goto (-50), 3) := by decide +kernel
theorem dX2_actsToEmpty_67 : decode cX2_actsToEmpty 67 = .ok (.bipush (-9), 2) := by decide +kernel
theorem dX2_actsToEmpty_69 : decode cX2_actsToEmpty 69 = .ok (.ireturn, 1) := by decide +kernel
set_option maxRecDepth 20000 in
theorem ggX2_bestHome_X2_survey : GoodIn wsX2_bestHome wsX2_survey := goodIn_r _ [6, 7, 8, 9, 10, 11, 12, 13, 14, 15, 16, 17, 18, 19, 20, 21, 22, 23, 24, 25, 26, 27, 28, 29, 30, 31, 32, 33, 34, 35, 36, 37, 38, 39, 40, 41, 42, 43, 44, 45, 69, 70, 71, 72, 73, 74, 75, 76, 77, 78, 79, 80, 81, 82, 83, 84] (by decide +kernel) (by decide +kernel)
set_option maxRecDepth 20000 in
theorem gX2_bestHome_X2_survey : GoodIn wsX2_bestHome (wsV RX2 68 RX2 yX2_survey wsX2_survey) := goodIn_app (goodIn_of _ (by decide +kernel)) ggX2_bestHome_X2_survey
set_option maxRecDepth 20000 in
theorem ggX2_bestHome_X2_isLawful : GoodIn wsX2_bestHome wsX2_isLawful := goodIn_r _ [49, 8, 69, 70, 71, 72, 73] (by decide +kernel) (by decide +kernel)
set_option maxRecDepth 20000 in
theorem gX2_bestHome_X2_isLawful : GoodIn wsX2_bestHome (wsV RX2 65 RX2 yX2_isLawful wsX2_isLawful) := goodIn_app (goodIn_of _ (by decide +kernel)) ggX2_bestHome_X2_isLawful
set_option maxRecDepth 20000 in
theorem ggX2_bestHome_X1_worthOf : GoodIn wsX2_bestHome wsX1_worthOf := goodIn_r _ [52, 53, 54, 55, 56, 57, 13, 58, 59, 25, 26, 27, 28, 17, 29, 23, 10, 24, 30, 31, 32, 33, 34, 35, 36, 60, 61, 62, 63, 64, 65, 66, 67, 68, 74, 75, 76, 77, 78, 79, 80, 81, 82, 83, 84] (by decide +kernel) (by decide +kernel)
set_option maxRecDepth 20000 in
theorem gX2_bestHome_X1_worthOf_n101 : GoodIn wsX2_bestHome (wsX1_worthOf) := ggX2_bestHome_X1_worthOf
theorem dX2_bestHome_0 : decode cX2_bestHome 0 = .ok (.aload_n 0, 1) := by decide +kernel
theorem dX2_bestHome_1 : decode cX2_bestHome 1 = .ok (.aload_n 1, 1) := by decide +kernel
theorem dX2_bestHome_2 : decode cX2_bestHome 2 = .ok (.invokevirtual 68, 3) := by decide +kernel
theorem dX2_bestHome_5 : decode cX2_bestHome 5 = .ok (.bipush (-9), 2) := by decide +kernel
theorem dX2_bestHome_7 : decode cX2_bestHome 7 = .ok (.istore_n 2, 1) := by decide +kernel
theorem dX2_bestHome_8 : decode cX2_bestHome 8 = .ok (.ldc 100, 2) := by decide +kernel
theorem dX2_bestHome_10 : decode cX2_bestHome 10 = .ok (.istore_n 3, 1) := by decide +kernel
theorem dX2_bestHome_11 : decode cX2_bestHome 11 = .ok (.iconst 0, 1) := by decide +kernel
theorem dX2_bestHome_12 : decode cX2_bestHome 12 = .ok (.istore 4, 2) := by decide +kernel
theorem dX2_bestHome_14 : decode cX2_bestHome 14 = .ok (.iload 4, 2) := by decide +kernel
theorem dX2_bestHome_16 : decode cX2_bestHome 16 = .ok (.sipush 6561, 3) := by decide +kernel
theorem dX2_bestHome_19 : decode cX2_bestHome 19 = .ok (.if_icmp .ge 43, 3) := by decide +kernel
theorem dX2_bestHome_22 : decode cX2_bestHome 22 = .ok (.aload_n 0, 1) := by decide +kernel
theorem dX2_bestHome_23 : decode cX2_bestHome 23 = .ok (.iload 4, 2) := by decide +kernel
theorem dX2_bestHome_25 : decode cX2_bestHome 25 = .ok (.invokevirtual 65, 3) := by decide +kernel
theorem dX2_bestHome_28 : decode cX2_bestHome 28 = .ok (.ifCond .eq 12, 3) := by decide +kernel
theorem dX2_bestHome_31 : decode cX2_bestHome 31 = .ok (.aload_n 1, 1) := by decide +kernel
theorem dX2_bestHome_32 : decode cX2_bestHome 32 = .ok (.iload 4, 2) := by decide +kernel
theorem dX2_bestHome_34 : decode cX2_bestHome 34 = .ok (.invokevirtual 101, 3) := by decide +kernel
theorem dX2_bestHome_37 : decode cX2_bestHome 37 = .ok (.goto 5, 3) := by decide +kernel
theorem dX2_bestHome_40 : decode cX2_bestHome 40 = .ok (.ldc 100, 2) := by decide +kernel
theorem dX2_bestHome_42 : decode cX2_bestHome 42 = .ok (.istore 5, 2) := by decide +kernel
theorem dX2_bestHome_44 : decode cX2_bestHome 44 = .ok (.iload 5, 2) := by decide +kernel
theorem dX2_bestHome_46 : decode cX2_bestHome 46 = .ok (.iload_n 3, 1) := by decide +kernel
theorem dX2_bestHome_47 : decode cX2_bestHome 47 = .ok (.if_icmp .le 9, 3) := by decide +kernel
theorem dX2_bestHome_50 : decode cX2_bestHome 50 = .ok (.iload 5, 2) := by decide +kernel
theorem dX2_bestHome_52 : decode cX2_bestHome 52 = .ok (.istore_n 3, 1) := by decide +kernel
theorem dX2_bestHome_53 : decode cX2_bestHome 53 = .ok (.iload 4, 2) := by decide +kernel
theorem dX2_bestHome_55 : decode cX2_bestHome 55 = .ok (.istore_n 2, 1) := by decide +kernel
theorem dX2_bestHome_56 : decode cX2_bestHome 56 = .ok (.iinc 4 1, 3) := by decide +kernel
theorem dX2_bestHome_59 : decode cX2_bestHome 59 = .ok (.goto (-45), 3) := by decide +kernel
theorem dX2_bestHome_62 : decode cX2_bestHome 62 = .ok (.iload_n 2, 1) := by decide +kernel
theorem dX2_bestHome_63 : decode cX2_bestHome 63 = .ok (.ireturn, 1) := by decide +kernel
set_option maxRecDepth 20000 in
theorem ggX2_countFitting_X2_survey : GoodIn wsX2_countFitting wsX2_survey := goodIn_r _ [5, 6, 7, 8, 9, 10, 11, 12, 13, 14, 15, 16, 17, 18, 19, 20, 21, 22, 23, 24, 25, 26, 27, 28, 29, 30, 31, 32, 33, 34, 35, 36, 37, 38, 39, 40, 41, 42, 43, 44, 57, 58, 59, 60, 61, 62, 63, 64, 65, 66, 67, 68, 69, 70, 71, 72] (by decide +kernel) (by decide +kernel)
set_option maxRecDepth 20000 in
theorem gX2_countFitting_X2_survey : GoodIn wsX2_countFitting (wsV RX2 68 RX2 yX2_survey wsX2_survey) := goodIn_app (goodIn_of _ (by decide +kernel)) ggX2_countFitting_X2_survey
set_option maxRecDepth 20000 in
theorem ggX2_countFitting_X2_isLawful : GoodIn wsX2_countFitting wsX2_isLawful := goodIn_r _ [48, 7, 57, 58, 59, 60, 61] (by decide +kernel) (by decide +kernel)
set_option maxRecDepth 20000 in
theorem gX2_countFitting_X2_isLawful : GoodIn wsX2_countFitting (wsV RX2 65 RX2 yX2_isLawful wsX2_isLawful) := goodIn_app (goodIn_of _ (by decide +kernel)) ggX2_countFitting_X2_isLawful
set_option maxRecDepth 20000 in
theorem ggX2_countFitting_X1_fitsLetter : GoodIn wsX2_countFitting wsX1_fitsLetter := goodIn_r _ [51, 52, 53, 54, 12, 55, 56, 24, 25, 26, 27, 16, 28, 22, 9, 23, 73, 74, 75, 76, 77, 78, 79, 80, 62, 63, 64, 65, 66, 67, 68, 69, 70, 71, 72] (by decide +kernel) (by decide +kernel)
set_option maxRecDepth 20000 in
theorem gX2_countFitting_X1_fitsLetter_n104 : GoodIn wsX2_countFitting (wsX1_fitsLetter) := ggX2_countFitting_X1_fitsLetter
theorem dX2_countFitting_0 : decode cX2_countFitting 0 = .ok (.aload_n 0, 1) := by decide +kernel
theorem dX2_countFitting_1 : decode cX2_countFitting 1 = .ok (.aload_n 1, 1) := by decide +kernel
theorem dX2_countFitting_2 : decode cX2_countFitting 2 = .ok (.invokevirtual 68, 3) := by decide +kernel
theorem dX2_countFitting_5 : decode cX2_countFitting 5 = .ok (.iconst 0, 1) := by decide +kernel
theorem dX2_countFitting_6 : decode cX2_countFitting 6 = .ok (.istore_n 3, 1) := by decide +kernel
theorem dX2_countFitting_7 : decode cX2_countFitting 7 = .ok (.iconst 0, 1) := by decide +kernel
theorem dX2_countFitting_8 : decode cX2_countFitting 8 = .ok (.istore 4, 2) := by decide +kernel
theorem dX2_countFitting_10 : decode cX2_countFitting 10 = .ok (.iload 4, 2) := by decide +kernel
theorem dX2_countFitting_12 : decode cX2_countFitting 12 = .ok (.sipush 6561, 3) := by decide +kernel
theorem dX2_countFitting_15 : decode cX2_countFitting 15 = .ok (.if_icmp .ge 31, 3) := by decide +kernel
theorem dX2_countFitting_18 : decode cX2_countFitting 18 = .ok (.aload_n 0, 1) := by decide +kernel
theorem dX2_countFitting_19 : decode cX2_countFitting 19 = .ok (.iload 4, 2) := by decide +kernel
theorem dX2_countFitting_21 : decode cX2_countFitting 21 = .ok (.invokevirtual 65, 3) := by decide +kernel
theorem dX2_countFitting_24 : decode cX2_countFitting 24 = .ok (.ifCond .eq 16, 3) := by decide +kernel
theorem dX2_countFitting_27 : decode cX2_countFitting 27 = .ok (.aload_n 1, 1) := by decide +kernel
theorem dX2_countFitting_28 : decode cX2_countFitting 28 = .ok (.iload 4, 2) := by decide +kernel
theorem dX2_countFitting_30 : decode cX2_countFitting 30 = .ok (.aload_n 2, 1) := by decide +kernel
theorem dX2_countFitting_31 : decode cX2_countFitting 31 = .ok (.invokevirtual 104, 3) := by decide +kernel
theorem dX2_countFitting_34 : decode cX2_countFitting 34 = .ok (.ifCond .eq 6, 3) := by decide +kernel
theorem dX2_countFitting_37 : decode cX2_countFitting 37 = .ok (.iinc 3 1, 3) := by decide +kernel
theorem dX2_countFitting_40 : decode cX2_countFitting 40 = .ok (.iinc 4 1, 3) := by decide +kernel
theorem dX2_countFitting_43 : decode cX2_countFitting 43 = .ok (.goto (-33), 3) := by decide +kernel
theorem dX2_countFitting_46 : decode cX2_countFitting 46 = .ok (.iload_n 3, 1) := by decide +kernel
theorem dX2_countFitting_47 : decode cX2_countFitting 47 = .ok (.ireturn, 1) := by decide +kernel
set_option maxRecDepth 20000 in
theorem ggX2_surePlace_X2_survey : GoodIn wsX2_surePlace wsX2_survey := goodIn_r _ [5, 6, 7, 8, 9, 10, 11, 12, 13, 14, 15, 16, 17, 18, 19, 20, 21, 22, 23, 24, 25, 26, 27, 28, 29, 30, 31, 32, 33, 34, 35, 36, 37, 38, 39, 40, 41, 42, 43, 44, 57, 58, 59, 60, 61, 62, 63, 64, 65, 66, 67, 68, 69, 70, 71, 72] (by decide +kernel) (by decide +kernel)
set_option maxRecDepth 20000 in
theorem gX2_surePlace_X2_survey : GoodIn wsX2_surePlace (wsV RX2 68 RX2 yX2_survey wsX2_survey) := goodIn_app (goodIn_of _ (by decide +kernel)) ggX2_surePlace_X2_survey
set_option maxRecDepth 20000 in
theorem ggX2_surePlace_X2_isLawful : GoodIn wsX2_surePlace wsX2_isLawful := goodIn_r _ [48, 7, 57, 58, 59, 60, 61] (by decide +kernel) (by decide +kernel)
set_option maxRecDepth 20000 in
theorem gX2_surePlace_X2_isLawful : GoodIn wsX2_surePlace (wsV RX2 65 RX2 yX2_isLawful wsX2_isLawful) := goodIn_app (goodIn_of _ (by decide +kernel)) ggX2_surePlace_X2_isLawful
set_option maxRecDepth 20000 in
theorem ggX2_surePlace_X1_fitsLetter : GoodIn wsX2_surePlace wsX1_fitsLetter := goodIn_r _ [51, 52, 53, 54, 12, 55, 56, 24, 25, 26, 27, 16, 28, 22, 9, 23, 73, 74, 75, 76, 77, 78, 79, 80, 62, 63, 64, 65, 66, 67, 68, 69, 70, 71, 72] (by decide +kernel) (by decide +kernel)
set_option maxRecDepth 20000 in
theorem gX2_surePlace_X1_fitsLetter_n104 : GoodIn wsX2_surePlace (wsX1_fitsLetter) := ggX2_surePlace_X1_fitsLetter
set_option maxRecDepth 20000 in
theorem ggX2_surePlace_X4_placeIn : GoodIn wsX2_surePlace wsX4_placeIn := goodIn_r _ [23] (by decide +kernel) (by decide +kernel)
set_option maxRecDepth 20000 in
theorem gX2_surePlace_X4_placeIn_n53 : GoodIn wsX2_surePlace (wsX4_placeIn) := ggX2_surePlace_X4_placeIn
theorem dX2_surePlace_0 : decode cX2_surePlace 0 = .ok (.aload_n 0, 1) := by decide +kernel
theorem dX2_surePlace_1 : decode cX2_surePlace 1 = .ok (.aload_n 1, 1) := by decide +kernel
theorem dX2_surePlace_2 : decode cX2_surePlace 2 = .ok (.invokevirtual 68, 3) := by decide +kernel
theorem dX2_surePlace_5 : decode cX2_surePlace 5 = .ok (.bipush (-9), 2) := by decide +kernel
theorem dX2_surePlace_7 : decode cX2_surePlace 7 = .ok (.istore 4, 2) := by decide +kernel
theorem dX2_surePlace_9 : decode cX2_surePlace 9 = .ok (.iconst 0, 1) := by decide +kernel
theorem dX2_surePlace_10 : decode cX2_surePlace 10 = .ok (.istore 5, 2) := by decide +kernel
theorem dX2_surePlace_12 : decode cX2_surePlace 12 = .ok (.iload 5, 2) := by decide +kernel
theorem dX2_surePlace_14 : decode cX2_surePlace 14 = .ok (.sipush 6561, 3) := by decide +kernel
theorem dX2_surePlace_17 : decode cX2_surePlace 17 = .ok (.if_icmp .ge 57, 3) := by decide +kernel
theorem dX2_surePlace_20 : decode cX2_surePlace 20 = .ok (.aload_n 0, 1) := by decide +kernel
theorem dX2_surePlace_21 : decode cX2_surePlace 21 = .ok (.iload 5, 2) := by decide +kernel
theorem dX2_surePlace_23 : decode cX2_surePlace 23 = .ok (.invokevirtual 65, 3) := by decide +kernel
theorem dX2_surePlace_26 : decode cX2_surePlace 26 = .ok (.ifCond .eq 42, 3) := by decide +kernel
theorem dX2_surePlace_29 : decode cX2_surePlace 29 = .ok (.aload_n 1, 1) := by decide +kernel
theorem dX2_surePlace_30 : decode cX2_surePlace 30 = .ok (.iload 5, 2) := by decide +kernel
theorem dX2_surePlace_32 : decode cX2_surePlace 32 = .ok (.aload_n 2, 1) := by decide +kernel
theorem dX2_surePlace_33 : decode cX2_surePlace 33 = .ok (.invokevirtual 104, 3) := by decide +kernel
theorem dX2_surePlace_36 : decode cX2_surePlace 36 = .ok (.ifCond .eq 32, 3) := by decide +kernel
theorem dX2_surePlace_39 : decode cX2_surePlace 39 = .ok (.iload 5, 2) := by decide +kernel
theorem dX2_surePlace_41 : decode cX2_surePlace 41 = .ok (.iload_n 3, 1) := by decide +kernel
theorem dX2_surePlace_42 : decode cX2_surePlace 42 = .ok (.invokestatic 53, 3) := by decide +kernel
theorem dX2_surePlace_45 : decode cX2_surePlace 45 = .ok (.istore 6, 2) := by decide +kernel
theorem dX2_surePlace_47 : decode cX2_surePlace 47 = .ok (.iload 4, 2) := by decide +kernel
theorem dX2_surePlace_49 : decode cX2_surePlace 49 = .ok (.bipush (-9), 2) := by decide +kernel
theorem dX2_surePlace_51 : decode cX2_surePlace 51 = .ok (.if_icmp .eq 13, 3) := by decide +kernel
theorem dX2_surePlace_54 : decode cX2_surePlace 54 = .ok (.iload 4, 2) := by decide +kernel
theorem dX2_surePlace_56 : decode cX2_surePlace 56 = .ok (.iload 6, 2) := by decide +kernel
theorem dX2_surePlace_58 : decode cX2_surePlace 58 = .ok (.if_icmp .eq 6, 3) := by decide +kernel
theorem dX2_surePlace_61 : decode cX2_surePlace 61 = .ok (.bipush (-9), 2) := by decide +kernel
theorem dX2_surePlace_63 : decode cX2_surePlace 63 = .ok (.ireturn, 1) := by decide +kernel
theorem dX2_surePlace_64 : decode cX2_surePlace 64 = .ok (.iload 6, 2) := by decide +kernel
theorem dX2_surePlace_66 : decode cX2_surePlace 66 = .ok (.istore 4, 2) := by decide +kernel
theorem dX2_surePlace_68 : decode cX2_surePlace 68 = .ok (.iinc 5 1, 3) := by decide +kernel
theorem dX2_surePlace_71 : decode cX2_surePlace 71 = .ok (.goto (-59), 3) := by decide +kernel
theorem dX2_surePlace_74 : decode cX2_surePlace 74 = .ok (.iload 4, 2) := by decide +kernel
theorem dX2_surePlace_76 : decode cX2_surePlace 76 = .ok (.ireturn, 1) := by decide +kernel
