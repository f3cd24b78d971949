theorem dX5_slot_51 : decode cX5_slot 51 = .ok (.iconst 1, 1) := by decide +kernel
theorem dX5_slot_52 : decode cX5_slot 52 = .ok (.iand, 1) := by decide +kernel
theorem dX5_slot_53 : decode cX5_slot 53 = .ok (.ireturn, 1) := by decide +kernel
set_option maxRecDepth 20000 in
theorem ggX5_told_X5_in : GoodIn wsX5_told wsX5_in := goodIn_r _ [5] (by decide +kernel) (by decide +kernel)
set_option maxRecDepth 20000 in
theorem gX5_told_X5_in : GoodIn wsX5_told (va_wsS RX5 46 yX5_in wsX5_in) := goodIn_app (goodIn_of _ (by decide +kernel)) ggX5_told_X5_in
theorem dX5_told_0 : decode cX5_told 0 = .ok (.iload_n 1, 1) := by decide +kernel
theorem dX5_told_1 : decode cX5_told 1 = .ok (.iconst 0, 1) := by decide +kernel
theorem dX5_told_2 : decode cX5_told 2 = .ok (.iconst 3, 1) := by decide +kernel
theorem dX5_told_3 : decode cX5_told 3 = .ok (.invokestatic 46, 3) := by decide +kernel
theorem dX5_told_6 : decode cX5_told 6 = .ok (.ifCond .eq 14, 3) := by decide +kernel
theorem dX5_told_9 : decode cX5_told 9 = .ok (.aload_n 0, 1) := by decide +kernel
theorem dX5_told_10 : decode cX5_told 10 = .ok (.getfield 13, 3) := by decide +kernel
theorem dX5_told_13 : decode cX5_told 13 = .ok (.iconst 4, 1) := by decide +kernel
theorem dX5_told_14 : decode cX5_told 14 = .ok (.iload_n 1, 1) := by decide +kernel
theorem dX5_told_15 : decode cX5_told 15 = .ok (.iadd, 1) := by decide +kernel
theorem dX5_told_16 : decode cX5_told 16 = .ok (.iaload, 1) := by decide +kernel
theorem dX5_told_17 : decode cX5_told 17 = .ok (.goto 4, 3) := by decide +kernel
theorem dX5_told_20 : decode cX5_told 20 = .ok (.iconst (-1), 1) := by decide +kernel
theorem dX5_told_21 : decode cX5_told 21 = .ok (.ireturn, 1) := by decide +kernel
set_option maxRecDepth 20000 in
theorem ggX5_beam_X5_in : GoodIn wsX5_beam wsX5_in := goodIn_r _ [6] (by decide +kernel) (by decide +kernel)
set_option maxRecDepth 20000 in
theorem gX5_beam_X5_in : GoodIn wsX5_beam (va_wsS RX5 46 yX5_in wsX5_in) := goodIn_app (goodIn_of _ (by decide +kernel)) ggX5_beam_X5_in
set_option maxRecDepth 20000 in
theorem ggX5_beam_X5_isBorne : GoodIn wsX5_beam wsX5_isBorne := goodIn_r _ [10, 1, 11, 12, 13, 14, 15, 5, 16, 17, 18, 19, 20, 21, 22, 23, 24, 25, 26, 27, 28, 29, 30, 31, 32, 33, 34, 35, 36, 37, 38] (by decide +kernel) (by decide +kernel)
set_option maxRecDepth 20000 in
theorem gX5_beam_X5_isBorne : GoodIn wsX5_beam (wsV RX5 116 RX5 yX5_isBorne wsX5_isBorne) := goodIn_app (goodIn_of _ (by decide +kernel)) ggX5_beam_X5_isBorne
theorem dX5_beam_0 : decode cX5_beam 0 = .ok (.iload_n 1, 1) := by decide +kernel
theorem dX5_beam_1 : decode cX5_beam 1 = .ok (.iconst 0, 1) := by decide +kernel
theorem dX5_beam_2 : decode cX5_beam 2 = .ok (.aload_n 0, 1) := by decide +kernel
theorem dX5_beam_3 : decode cX5_beam 3 = .ok (.getfield 13, 3) := by decide +kernel
theorem dX5_beam_6 : decode cX5_beam 6 = .ok (.iconst 1, 1) := by decide +kernel
theorem dX5_beam_7 : decode cX5_beam 7 = .ok (.iaload, 1) := by decide +kernel
theorem dX5_beam_8 : decode cX5_beam 8 = .ok (.iconst 1, 1) := by decide +kernel
theorem dX5_beam_9 : decode cX5_beam 9 = .ok (.isub, 1) := by decide +kernel
theorem dX5_beam_10 : decode cX5_beam 10 = .ok (.invokestatic 46, 3) := by decide +kernel
theorem dX5_beam_13 : decode cX5_beam 13 = .ok (.ifCond .eq 25, 3) := by decide +kernel
theorem dX5_beam_16 : decode cX5_beam 16 = .ok (.aload_n 0, 1) := by decide +kernel
theorem dX5_beam_17 : decode cX5_beam 17 = .ok (.aload_n 0, 1) := by decide +kernel
theorem dX5_beam_18 : decode cX5_beam 18 = .ok (.getfield 26, 3) := by decide +kernel
theorem dX5_beam_21 : decode cX5_beam 21 = .ok (.iconst 0, 1) := by decide +kernel
theorem dX5_beam_22 : decode cX5_beam 22 = .ok (.iaload, 1) := by decide +kernel
theorem dX5_beam_23 : decode cX5_beam 23 = .ok (.iload_n 1, 1) := by decide +kernel
theorem dX5_beam_24 : decode cX5_beam 24 = .ok (.invokevirtual 116, 3) := by decide +kernel
theorem dX5_beam_27 : decode cX5_beam 27 = .ok (.ifCond .eq 7, 3) := by decide +kernel
theorem dX5_beam_30 : decode cX5_beam 30 = .ok (.iconst 1, 1) := by decide +kernel
theorem dX5_beam_31 : decode cX5_beam 31 = .ok (.goto 8, 3) := by decide +kernel
theorem dX5_beam_34 : decode cX5_beam 34 = .ok (.iconst 0, 1) := by decide +kernel
theorem dX5_beam_35 : decode cX5_beam 35 = .ok (.goto 4, 3) := by decide +kernel
theorem dX5_beam_38 : decode cX5_beam 38 = .ok (.iconst (-1), 1) := by decide +kernel
theorem dX5_beam_39 : decode cX5_beam 39 = .ok (.ireturn, 1) := by decide +kernel
set_option maxRecDepth 20000 in
theorem ggX5_act_X5_isLawful : GoodIn wsX5_act wsX5_isLawful := goodIn_r _ [7, 2, 8, 9, 10, 6, 11, 12, 13, 14, 15, 16, 17, 18, 19, 20, 21, 22, 23, 24, 25, 26, 27, 28, 29, 30, 31, 32, 33, 34, 35, 36, 37, 38, 39, 40, 41, 42, 43] (by decide +kernel) (by decide +kernel)
set_option maxRecDepth 20000 in
theorem gX5_act_X5_isLawful : GoodIn wsX5_act (wsV RX5 138 RX5 yX5_isLawful wsX5_isLawful) := goodIn_app (goodIn_of _ (by decide +kernel)) ggX5_act_X5_isLawful
set_option maxRecDepth 20000 in
theorem ggX5_act_X5_lying : GoodIn wsX5_act wsX5_lying := goodIn_r _ [11, 2, 12, 13, 14, 6, 15, 16, 17, 18, 25, 26, 27, 28, 29, 30, 31, 32, 33, 34, 35, 36, 37, 38, 39, 40, 41, 42, 43] (by decide +kernel) (by decide +kernel)
set_option maxRecDepth 20000 in
theorem gX5_act_X5_lying : GoodIn wsX5_act (wsV RX5 113 RX5 yX5_lying wsX5_lying) := goodIn_app (goodIn_of _ (by decide +kernel)) ggX5_act_X5_lying
theorem dX5_act_0 : decode cX5_act 0 = .ok (.aload_n 0, 1) := by decide +kernel
theorem dX5_act_1 : decode cX5_act 1 = .ok (.getfield 26, 3) := by decide +kernel
theorem dX5_act_4 : decode cX5_act 4 = .ok (.iconst 2, 1) := by decide +kernel
theorem dX5_act_5 : decode cX5_act 5 = .ok (.iaload, 1) := by decide +kernel
theorem dX5_act_6 : decode cX5_act 6 = .ok (.aload_n 0, 1) := by decide +kernel
theorem dX5_act_7 : decode cX5_act 7 = .ok (.getfield 13, 3) := by decide +kernel
theorem dX5_act_10 : decode cX5_act 10 = .ok (.bipush 7, 2) := by decide +kernel
theorem dX5_act_12 : decode cX5_act 12 = .ok (.iaload, 1) := by decide +kernel
theorem dX5_act_13 : decode cX5_act 13 = .ok (.if_icmp .eq 11, 3) := by decide +kernel
theorem dX5_act_16 : decode cX5_act 16 = .ok (.aload_n 0, 1) := by decide +kernel
theorem dX5_act_17 : decode cX5_act 17 = .ok (.iload_n 1, 1) := by decide +kernel
theorem dX5_act_18 : decode cX5_act 18 = .ok (.invokevirtual 138, 3) := by decide +kernel
theorem dX5_act_21 : decode cX5_act 21 = .ok (.ifCond .ne 6, 3) := by decide +kernel
theorem dX5_act_24 : decode cX5_act 24 = .ok (.bipush (-2), 2) := by decide +kernel
theorem dX5_act_26 : decode cX5_act 26 = .ok (.ireturn, 1) := by decide +kernel
theorem dX5_act_27 : decode cX5_act 27 = .ok (.aload_n 0, 1) := by decide +kernel
theorem dX5_act_28 : decode cX5_act 28 = .ok (.getfield 26, 3) := by decide +kernel
theorem dX5_act_31 : decode cX5_act 31 = .ok (.iconst 0, 1) := by decide +kernel
theorem dX5_act_32 : decode cX5_act 32 = .ok (.iload_n 1, 1) := by decide +kernel
theorem dX5_act_33 : decode cX5_act 33 = .ok (.iastore, 1) := by decide +kernel
theorem dX5_act_34 : decode cX5_act 34 = .ok (.aload_n 0, 1) := by decide +kernel
theorem dX5_act_35 : decode cX5_act 35 = .ok (.getfield 26, 3) := by decide +kernel
theorem dX5_act_38 : decode cX5_act 38 = .ok (.iconst 2, 1) := by decide +kernel
theorem dX5_act_39 : decode cX5_act 39 = .ok (.dup2, 1) := by decide +kernel
theorem dX5_act_40 : decode cX5_act 40 = .ok (.iaload, 1) := by decide +kernel
theorem dX5_act_41 : decode cX5_act 41 = .ok (.iconst 1, 1) := by decide +kernel
theorem dX5_act_42 : decode cX5_act 42 = .ok (.iadd, 1) := by decide +kernel
theorem dX5_act_43 : decode cX5_act 43 = .ok (.iastore, 1) := by decide +kernel
theorem dX5_act_44 : decode cX5_act 44 = .ok (.aload_n 0, 1) := by decide +kernel
theorem dX5_act_45 : decode cX5_act 45 = .ok (.iload_n 1, 1) := by decide +kernel
theorem dX5_act_46 : decode cX5_act 46 = .ok (.invokevirtual 113, 3) := by decide +kernel
theorem dX5_act_49 : decode cX5_act 49 = .ok (.ireturn, 1) := by decide +kernel
set_option maxRecDepth 20000 in
theorem ggX5_down_X5_isPanel : GoodIn wsX5_down wsX5_isPanel := goodIn_r _ [6, 7, 8, 9, 5, 10, 40, 41, 42, 43, 44, 45, 46, 47, 48, 49, 50, 51, 52, 53, 54, 55, 56, 57, 58] (by decide +kernel) (by decide +kernel)
set_option maxRecDepth 20000 in
theorem gX5_down_X5_isPanel : GoodIn wsX5_down (wsV RX5 135 RX5 yX5_isPanel wsX5_isPanel) := goodIn_app (goodIn_of _ (by decide +kernel)) ggX5_down_X5_isPanel
set_option maxRecDepth 20000 in
theorem ggX5_down_X5_slotIn : GoodIn wsX5_down wsX5_slotIn := goodIn_r _ [14, 7, 15, 16, 5, 17, 40, 41, 42, 43, 44, 45, 46, 47, 48, 49, 50, 51, 52, 53, 54, 55, 56, 57, 58] (by decide +kernel) (by decide +kernel)
set_option maxRecDepth 20000 in
theorem gX5_down_X5_slotIn : GoodIn wsX5_down (wsV RX5 110 RX5 yX5_slotIn wsX5_slotIn) := goodIn_app (goodIn_of _ (by decide +kernel)) ggX5_down_X5_slotIn
set_option maxRecDepth 20000 in
theorem ggX5_down_X5_with : GoodIn wsX5_down wsX5_with := goodIn_r _ [21, 7, 11, 12, 13, 5, 14, 15, 16, 17, 40, 41, 42, 43, 44, 45, 46, 47, 48, 49, 50, 51, 52, 53, 54, 55, 56, 57, 58] (by decide +kernel) (by decide +kernel)
set_option maxRecDepth 20000 in
theorem gX5_down_X5_with : GoodIn wsX5_down (wsV RX5 141 RX5 yX5_with wsX5_with) := goodIn_app (goodIn_of _ (by decide +kernel)) ggX5_down_X5_with
set_option maxRecDepth 20000 in
theorem ggX5_down_X5_act : GoodIn wsX5_down wsX5_act := goodIn_r _ [25, 1, 7, 26, 27, 28, 5, 29, 30, 31, 32, 33, 11, 12, 13, 14, 15, 16, 17, 34, 35, 36, 37, 38, 39, 40, 41, 42, 43, 44, 45, 46, 47, 48, 49, 50, 51, 52, 53, 54, 55, 56, 57, 58] (by decide +kernel) (by decide +kernel)
set_option maxRecDepth 20000 in
theorem gX5_down_X5_act : GoodIn wsX5_down (wsV RX5 145 RX5 yX5_act wsX5_act) := goodIn_app (goodIn_of _ (by decide +kernel)) ggX5_down_X5_act
theorem dX5_down_0 : decode cX5_down 0 = .ok (.aload_n 0, 1) := by decide +kernel
theorem dX5_down_1 : decode cX5_down 1 = .ok (.iload_n 1, 1) := by decide +kernel
theorem dX5_down_2 : decode cX5_down 2 = .ok (.invokevirtual 135, 3) := by decide +kernel
theorem dX5_down_5 : decode cX5_down 5 = .ok (.ifCond .ne 5, 3) := by decide +kernel
theorem dX5_down_8 : decode cX5_down 8 = .ok (.iconst (-1), 1) := by decide +kernel
theorem dX5_down_9 : decode cX5_down 9 = .ok (.ireturn, 1) := by decide +kernel
theorem dX5_down_10 : decode cX5_down 10 = .ok (.aload_n 0, 1) := by decide +kernel
theorem dX5_down_11 : decode cX5_down 11 = .ok (.aload_n 0, 1) := by decide +kernel
theorem dX5_down_12 : decode cX5_down 12 = .ok (.getfield 26, 3) := by decide +kernel
theorem dX5_down_15 : decode cX5_down 15 = .ok (.iconst 0, 1) := by decide +kernel
theorem dX5_down_16 : decode cX5_down 16 = .ok (.iaload, 1) := by decide +kernel
theorem dX5_down_17 : decode cX5_down 17 = .ok (.iload_n 1, 1) := by decide +kernel
theorem dX5_down_18 : decode cX5_down 18 = .ok (.invokevirtual 110, 3) := by decide +kernel
theorem dX5_down_21 : decode cX5_down 21 = .ok (.bipush 8, 2) := by decide +kernel
theorem dX5_down_23 : decode cX5_down 23 = .ok (.if_icmp .ne 8, 3) := by decide +kernel
theorem dX5_down_26 : decode cX5_down 26 = .ok (.bipush (-2), 2) := by decide +kernel
theorem dX5_down_28 : decode cX5_down 28 = .ok (.goto 20, 3) := by decide +kernel
theorem dX5_down_31 : decode cX5_down 31 = .ok (.aload_n 0, 1) := by decide +kernel
theorem dX5_down_32 : decode cX5_down 32 = .ok (.aload_n 0, 1) := by decide +kernel
theorem dX5_down_33 : decode cX5_down 33 = .ok (.aload_n 0, 1) := by decide +kernel
theorem dX5_down_34 : decode cX5_down 34 = .ok (.getfield 26, 3) := by decide +kernel
theorem dX5_down_37 : decode cX5_down 37 = .ok (.iconst 0, 1) := by decide +kernel
theorem dX5_down_38 : decode cX5_down 38 = .ok (.iaload, 1) := by decide +kernel
theorem dX5_down_39 : decode cX5_down 39 = .ok (.iload_n 1, 1) := by decide +kernel
theorem dX5_down_40 : decode cX5_down 40 = .ok (.bipush 8, 2) := by decide +kernel
theorem dX5_down_42 : decode cX5_down 42 = .ok (.invokevirtual 141, 3) := by decide +kernel
theorem dX5_down_45 : decode cX5_down 45 = .ok (.invokevirtual 145, 3) := by decide +kernel
theorem dX5_down_48 : decode cX5_down 48 = .ok (.ireturn, 1) := by decide +kernel
set_option maxRecDepth 20000 in
theorem ggX5_up_X5_isPanel : GoodIn wsX5_up wsX5_isPanel := goodIn_r _ [6, 7, 8, 9, 5, 10, 44, 45, 46, 47, 48, 49, 50, 51, 52, 53, 54, 55, 56, 57, 58, 59, 60, 61, 62] (by decide +kernel) (by decide +kernel)
set_option maxRecDepth 20000 in
theorem gX5_up_X5_isPanel : GoodIn wsX5_up (wsV RX5 135 RX5 yX5_isPanel wsX5_isPanel) := goodIn_app (goodIn_of _ (by decide +kernel)) ggX5_up_X5_isPanel
set_option maxRecDepth 20000 in
theorem ggX5_up_X5_in : GoodIn wsX5_up wsX5_in := goodIn_r _ [10] (by decide +kernel) (by decide +kernel)
set_option maxRecDepth 20000 in
theorem gX5_up_X5_in : GoodIn wsX5_up (va_wsS RX5 46 yX5_in wsX5_in) := goodIn_app (goodIn_of _ (by decide +kernel)) ggX5_up_X5_in
set_option maxRecDepth 20000 in
theorem ggX5_up_X5_slotIn : GoodIn wsX5_up wsX5_slotIn := goodIn_r _ [14, 7, 15, 16, 5, 17, 44, 45, 46, 47, 48, 49, 50, 51, 52, 53, 54, 55, 56, 57, 58, 59, 60, 61, 62] (by decide +kernel) (by decide +kernel)
set_option maxRecDepth 20000 in
theorem gX5_up_X5_slotIn : GoodIn wsX5_up (wsV RX5 110 RX5 yX5_slotIn wsX5_slotIn) := goodIn_app (goodIn_of _ (by decide +kernel)) ggX5_up_X5_slotIn
set_option maxRecDepth 20000 in
theorem ggX5_up_X5_panelAt : GoodIn wsX5_up wsX5_panelAt := goodIn_r _ [21, 7, 11, 12, 13, 5, 14, 15, 16, 17, 44, 45, 46, 47, 48, 49, 50, 51, 52, 53, 54, 55, 56, 57, 58, 59, 60, 61, 62] (by decide +kernel) (by decide +kernel)
set_option maxRecDepth 20000 in
theorem gX5_up_X5_panelAt : GoodIn wsX5_up (wsV RX5 120 RX5 yX5_panelAt wsX5_panelAt) := goodIn_app (goodIn_of _ (by decide +kernel)) ggX5_up_X5_panelAt
set_option maxRecDepth 20000 in
theorem ggX5_up_X5_with : GoodIn wsX5_up wsX5_with := goodIn_r _ [25, 7, 11, 12, 13, 5, 14, 15, 16, 17, 44, 45, 46, 47, 48, 49, 50, 51, 52, 53, 54, 55, 56, 57, 58, 59, 60, 61, 62] (by decide +kernel) (by decide +kernel)
set_option maxRecDepth 20000 in
theorem gX5_up_X5_with : GoodIn wsX5_up (wsV RX5 141 RX5 yX5_with wsX5_with) := goodIn_app (goodIn_of _ (by decide +kernel)) ggX5_up_X5_with
set_option maxRecDepth 20000 in
theorem ggX5_up_X5_act : GoodIn wsX5_up wsX5_act := goodIn_r _ [29, 1, 7, 30, 31, 32, 5, 33, 34, 35, 36, 37, 11, 12, 13, 14, 15, 16, 17, 38, 39, 40, 41, 42, 43, 44, 45, 46, 47, 48, 49, 50, 51, 52, 53, 54, 55, 56, 57, 58, 59, 60, 61, 62] (by decide +kernel) (by decide +kernel)
set_option maxRecDepth 20000 in
theorem gX5_up_X5_act : GoodIn wsX5_up (wsV RX5 145 RX5 yX5_act wsX5_act) := goodIn_app (goodIn_of _ (by decide +kernel)) ggX5_up_X5_act
theorem dX5_up_0 : decode cX5_up 0 = .ok (.aload_n 0, 1) := by decide +kernel
theorem dX5_up_1 : decode cX5_up 1 = .ok (.iload_n 1, 1) := by decide +kernel
theorem dX5_up_2 : decode cX5_up 2 = .ok (.invokevirtual 135, 3) := by decide +kernel
theorem dX5_up_5 : decode cX5_up 5 = .ok (.ifCond .eq 13, 3) := by decide +kernel
theorem dX5_up_8 : decode cX5_up 8 = .ok (.iload_n 2, 1) := by decide +kernel
theorem dX5_up_9 : decode cX5_up 9 = .ok (.iconst 0, 1) := by decide +kernel
theorem dX5_up_10 : decode cX5_up 10 = .ok (.bipush 7, 2) := by decide +kernel
theorem dX5_up_12 : decode cX5_up 12 = .ok (.invokestatic 46, 3) := by decide +kernel
theorem dX5_up_15 : decode cX5_up 15 = .ok (.ifCond .ne 5, 3) := by decide +kernel
theorem dX5_up_18 : decode cX5_up 18 = .ok (.iconst (-1), 1) := by decide +kernel
theorem dX5_up_19 : decode cX5_up 19 = .ok (.ireturn, 1) := by decide +kernel
theorem dX5_up_20 : decode cX5_up 20 = .ok (.aload_n 0, 1) := by decide +kernel
theorem dX5_up_21 : decode cX5_up 21 = .ok (.aload_n 0, 1) := by decide +kernel
theorem dX5_up_22 : decode cX5_up 22 = .ok (.getfield 26, 3) := by decide +kernel
theorem dX5_up_25 : decode cX5_up 25 = .ok (.iconst 0, 1) := by decide +kernel
theorem dX5_up_26 : decode cX5_up 26 = .ok (.iaload, 1) := by decide +kernel
theorem dX5_up_27 : decode cX5_up 27 = .ok (.iload_n 1, 1) := by decide +kernel
theorem dX5_up_28 : decode cX5_up 28 = .ok (.invokevirtual 110, 3) := by decide +kernel
theorem dX5_up_31 : decode cX5_up 31 = .ok (.bipush 8, 2) := by decide +kernel
theorem dX5_up_33 : decode cX5_up 33 = .ok (.if_icmp .ne 19, 3) := by decide +kernel
theorem dX5_up_36 : decode cX5_up 36 = .ok (.aload_n 0, 1) := by decide +kernel
theorem dX5_up_37 : decode cX5_up 37 = .ok (.aload_n 0, 1) := by decide +kernel
theorem dX5_up_38 : decode cX5_up 38 = .ok (.getfield 26, 3) := by decide +kernel
theorem dX5_up_41 : decode cX5_up 41 = .ok (.iconst 0, 1) := by decide +kernel
theorem dX5_up_42 : decode cX5_up 42 = .ok (.iaload, 1) := by decide +kernel
theorem dX5_up_43 : decode cX5_up 43 = .ok (.iload_n 2, 1) := by decide +kernel
theorem dX5_up_44 : decode cX5_up 44 = .ok (.invokevirtual 120, 3) := by decide +kernel
theorem dX5_up_47 : decode cX5_up 47 = .ok (.bipush (-9), 2) := by decide +kernel
theorem dX5_up_49 : decode cX5_up 49 = .ok (.if_icmp .eq 8, 3) := by decide +kernel
theorem dX5_up_52 : decode cX5_up 52 = .ok (.bipush (-2), 2) := by decide +kernel
theorem dX5_up_54 : decode cX5_up 54 = .ok (.goto 19, 3) := by decide +kernel
theorem dX5_up_57 : decode cX5_up 57 = .ok (.aload_n 0, 1) := by decide +kernel
theorem dX5_up_58 : decode cX5_up 58 = .ok (.aload_n 0, 1) := by decide +kernel
theorem dX5_up_59 : decode cX5_up 59 = .ok (.aload_n 0, 1) := by decide +kernel
theorem dX5_up_60 : decode cX5_up 60 = .ok (.getfield 26, 3) := by decide +kernel
theorem dX5_up_63 : decode cX5_up 63 = .ok (.iconst 0, 1) := by decide +kernel
theorem dX5_up_64 : decode cX5_up 64 = .ok (.iaload, 1) := by decide +kernel
theorem dX5_up_65 : decode cX5_up 65 = .ok (.iload_n 1, 1) := by decide +kernel
theorem dX5_up_66 : decode cX5_up 66 = .ok (.iload_n 2, 1) := by decide +kernel
theorem dX5_up_67 : decode cX5_up 67 = .ok (.invokevirtual 141, 3) := by decide +kernel
theorem dX5_up_70 : decode cX5_up 70 = .ok (.invokevirtual 145, 3) := by decide +kernel
theorem dX5_up_73 : decode cX5_up 73 = .ok (.ireturn, 1) := by decide +kernel
set_option maxRecDepth 20000 in
theorem ggX5_night_X5_leaksIn : GoodIn wsX5_night wsX5_leaksIn := goodIn_r _ [6, 7, 8, 9, 10, 5, 11, 12, 13, 14, 15, 16, 17, 18, 19, 20, 21, 22, 23, 24, 25, 26, 27, 28, 29, 30, 31, 32, 33, 34, 35, 36, 37, 38, 39, 40, 41, 42, 43, 44, 45] (by decide +kernel) (by decide +kernel)
set_option maxRecDepth 20000 in
theorem gX5_night_X5_leaksIn : GoodIn wsX5_night (wsV RX5 129 RX5 yX5_leaksIn wsX5_leaksIn) := goodIn_app (goodIn_of _ (by decide +kernel)) ggX5_night_X5_leaksIn
theorem dX5_night_0 : decode cX5_night 0 = .ok (.aload_n 0, 1) := by decide +kernel
theorem dX5_night_1 : decode cX5_night 1 = .ok (.getfield 26, 3) := by decide +kernel
theorem dX5_night_4 : decode cX5_night 4 = .ok (.iconst 1, 1) := by decide +kernel
theorem dX5_night_5 : decode cX5_night 5 = .ok (.iaload, 1) := by decide +kernel
theorem dX5_night_6 : decode cX5_night 6 = .ok (.sipush 999, 3) := by decide +kernel
theorem dX5_night_9 : decode cX5_night 9 = .ok (.if_icmp .ne 6, 3) := by decide +kernel
theorem dX5_night_12 : decode cX5_night 12 = .ok (.bipush (-2), 2) := by decide +kernel
theorem dX5_night_14 : decode cX5_night 14 = .ok (.ireturn, 1) := by decide +kernel
theorem dX5_night_15 : decode cX5_night 15 = .ok (.aload_n 0, 1) := by decide +kernel
theorem dX5_night_16 : decode cX5_night 16 = .ok (.aload_n 0, 1) := by decide +kernel
theorem dX5_night_17 : decode cX5_night 17 = .ok (.getfield 26, 3) := by decide +kernel
theorem dX5_night_20 : decode cX5_night 20 = .ok (.iconst 0, 1) := by decide +kernel
theorem dX5_night_21 : decode cX5_night 21 = .ok (.iaload, 1) := by decide +kernel
theorem dX5_night_22 : decode cX5_night 22 = .ok (.invokevirtual 129, 3) := by decide +kernel
theorem dX5_night_25 : decode cX5_night 25 = .ok (.istore_n 1, 1) := by decide +kernel
theorem dX5_night_26 : decode cX5_night 26 = .ok (.aload_n 0, 1) := by decide +kernel
theorem dX5_night_27 : decode cX5_night 27 = .ok (.getfield 26, 3) := by decide +kernel
theorem dX5_night_30 : decode cX5_night 30 = .ok (.iconst 3, 1) := by decide +kernel
theorem dX5_night_31 : decode cX5_night 31 = .ok (.dup2, 1) := by decide +kernel
theorem dX5_night_32 : decode cX5_night 32 = .ok (.iaload, 1) := by decide +kernel
theorem dX5_night_33 : decode cX5_night 33 = .ok (.iload_n 1, 1) := by decide +kernel
theorem dX5_night_34 : decode cX5_night 34 = .ok (.iadd, 1) := by decide +kernel
theorem dX5_night_35 : decode cX5_night 35 = .ok (.iastore, 1) := by decide +kernel
theorem dX5_night_36 : decode cX5_night 36 = .ok (.aload_n 0, 1) := by decide +kernel
theorem dX5_night_37 : decode cX5_night 37 = .ok (.getfield 26, 3) := by decide +kernel
theorem dX5_night_40 : decode cX5_night 40 = .ok (.iconst 1, 1) := by decide +kernel
theorem dX5_night_41 : decode cX5_night 41 = .ok (.dup2, 1) := by decide +kernel
theorem dX5_night_42 : decode cX5_night 42 = .ok (.iaload, 1) := by decide +kernel
theorem dX5_night_43 : decode cX5_night 43 = .ok (.iconst 1, 1) := by decide +kernel
theorem dX5_night_44 : decode cX5_night 44 = .ok (.iadd, 1) := by decide +kernel
theorem dX5_night_45 : decode cX5_night 45 = .ok (.iastore, 1) := by decide +kernel
theorem dX5_night_46 : decode cX5_night 46 = .ok (.aload_n 0, 1) := by decide +kernel
theorem dX5_night_47 : decode cX5_night 47 = .ok (.getfield 26, 3) := by decide +kernel
theorem dX5_night_50 : decode cX5_night 50 = .ok (.iconst 2, 1) := by decide +kernel
theorem dX5_night_51 : decode cX5_night 51 = .ok (.iconst 0, 1) := by decide +kernel
theorem dX5_night_52 : decode cX5_night 52 = .ok (.iastore, 1) := by decide +kernel
theorem dX5_night_53 : decode cX5_night 53 = .ok (.iload_n 1, 1) := by decide +kernel
theorem dX5_night_54 : decode cX5_night 54 = .ok (.ireturn, 1) := by decide +kernel
set_option maxRecDepth 20000 in
theorem ggX5_now_X5_worthOf : GoodIn wsX5_now wsX5_worthOf := goodIn_r _ [7, 8, 9, 10, 11, 6, 12, 13, 14, 15, 16, 17, 18, 19, 20, 21, 22, 23, 24, 25, 26, 27, 28, 29, 30, 31, 32, 33, 34, 35, 36, 37, 38, 39, 53, 54, 55, 56, 57, 58, 59, 60, 61, 62, 63, 64, 65, 66, 67, 68, 69, 70, 71] (by decide +kernel) (by decide +kernel)
set_option maxRecDepth 20000 in
theorem gX5_now_X5_worthOf : GoodIn wsX5_now (wsV RX5 148 RX5 yX5_worthOf wsX5_worthOf) := goodIn_app (goodIn_of _ (by decide +kernel)) ggX5_now_X5_worthOf
set_option maxRecDepth 20000 in
theorem ggX5_now_X5_isLawful : GoodIn wsX5_now wsX5_isLawful := goodIn_r _ [43, 8, 44, 45, 46, 6, 47, 22, 23, 24, 25, 26, 27, 28, 48, 49, 50, 51, 17, 52, 53, 54, 55, 56, 57, 58, 59, 60, 61, 62, 63, 64, 65, 66, 67, 68, 69, 70, 71] (by decide +kernel) (by decide +kernel)
set_option maxRecDepth 20000 in
theorem gX5_now_X5_isLawful : GoodIn wsX5_now (wsV RX5 138 RX5 yX5_isLawful wsX5_isLawful) := goodIn_app (goodIn_of _ (by decide +kernel)) ggX5_now_X5_isLawful
set_option maxRecDepth 20000 in
theorem ggX5_now_X5_leaksIn : GoodIn wsX5_now wsX5_leaksIn := goodIn_r _ [12, 8, 13, 14, 15, 6, 16, 17, 18, 19, 20, 21, 22, 23, 24, 25, 26, 27, 28, 29, 30, 31, 53, 54, 55, 56, 57, 58, 59, 60, 61, 62, 63, 64, 65, 66, 67, 68, 69, 70, 71] (by decide +kernel) (by decide +kernel)
set_option maxRecDepth 20000 in
theorem gX5_now_X5_leaksIn : GoodIn wsX5_now (wsV RX5 129 RX5 yX5_leaksIn wsX5_leaksIn) := goodIn_app (goodIn_of _ (by decide +kernel)) ggX5_now_X5_leaksIn
theorem dX5_now_0 : decode cX5_now 0 = .ok (.iload_n 1, 1) := by decide +kernel
theorem dX5_now_1 : decode cX5_now 1 = .ok (.tableswitch 101 0 5 #[39, 46, 53, 60, 71, 90], 39) := by decide +kernel
theorem dX5_now_40 : decode cX5_now 40 = .ok (.aload_n 0, 1) := by decide +kernel
theorem dX5_now_41 : decode cX5_now 41 = .ok (.getfield 26, 3) := by decide +kernel
theorem dX5_now_44 : decode cX5_now 44 = .ok (.iconst 1, 1) := by decide +kernel
theorem dX5_now_45 : decode cX5_now 45 = .ok (.iaload, 1) := by decide +kernel
theorem dX5_now_46 : decode cX5_now 46 = .ok (.ireturn, 1) := by decide +kernel
theorem dX5_now_47 : decode cX5_now 47 = .ok (.aload_n 0, 1) := by decide +kernel
theorem dX5_now_48 : decode cX5_now 48 = .ok (.getfield 26, 3) := by decide +kernel
theorem dX5_now_51 : decode cX5_now 51 = .ok (.iconst 2, 1) := by decide +kernel
theorem dX5_now_52 : decode cX5_now 52 = .ok (.iaload, 1) := by decide +kernel
theorem dX5_now_53 : decode cX5_now 53 = .ok (.ireturn, 1) := by decide +kernel
theorem dX5_now_54 : decode cX5_now 54 = .ok (.aload_n 0, 1) := by decide +kernel
theorem dX5_now_55 : decode cX5_now 55 = .ok (.getfield 26, 3) := by decide +kernel
theorem dX5_now_58 : decode cX5_now 58 = .ok (.iconst 3, 1) := by decide +kernel
theorem dX5_now_59 : decode cX5_now 59 = .ok (.iaload, 1) := by decide +kernel
theorem dX5_now_60 : decode cX5_now 60 = .ok (.ireturn, 1) := by decide +kernel
theorem dX5_now_61 : decode cX5_now 61 = .ok (.aload_n 0, 1) := by decide +kernel
theorem dX5_now_62 : decode cX5_now 62 = .ok (.aload_n 0, 1) := by decide +kernel
theorem dX5_now_63 : decode cX5_now 63 = .ok (.getfield 26, 3) := by decide +kernel
theorem dX5_now_66 : decode cX5_now 66 = .ok (.iconst 0, 1) := by decide +kernel
theorem dX5_now_67 : decode cX5_now 67 = .ok (.iaload, 1) := by decide +kernel
theorem dX5_now_68 : decode cX5_now 68 = .ok (.invokevirtual 148, 3) := by decide +kernel
theorem dX5_now_71 : decode cX5_now 71 = .ok (.ireturn, 1) := by decide +kernel
theorem dX5_now_72 : decode cX5_now 72 = .ok (.aload_n 0, 1) := by decide +kernel
theorem dX5_now_73 : decode cX5_now 73 = .ok (.aload_n 0, 1) := by decide +kernel
theorem dX5_now_74 : decode cX5_now 74 = .ok (.getfield 26, 3) := by decide +kernel
theorem dX5_now_77 : decode cX5_now 77 = .ok (.iconst 0, 1) := by decide +kernel
theorem dX5_now_78 : decode cX5_now 78 = .ok (.iaload, 1) := by decide +kernel
theorem dX5_now_79 : decode cX5_now 79 = .ok (.invokevirtual 138, 3) := by decide +kernel
theorem dX5_now_82 : decode cX5_now 82 = .ok (.ifCond .eq 7, 3) := by decide +kernel
theorem dX5_now_85 : decode cX5_now 85 = .ok (.iconst 1, 1) := by decide +kernel
theorem dX5_now_86 : decode cX5_now 86 = .ok (.goto 4, 3) := by decide +kernel
theorem dX5_now_89 : decode cX5_now 89 = .ok (.iconst 0, 1) := by decide +kernel
theorem dX5_now_90 : decode cX5_now 90 = .ok (.ireturn, 1) := by decide +kernel
theorem dX5_now_91 : decode cX5_now 91 = .ok (.aload_n 0, 1) := by decide +kernel
theorem dX5_now_92 : decode cX5_now 92 = .ok (.aload_n 0, 1) := by decide +kernel
theorem dX5_now_93 : decode cX5_now 93 = .ok (.getfield 26, 3) := by decide +kernel
theorem dX5_now_96 : decode cX5_now 96 = .ok (.iconst 0, 1) := by decide +kernel
theorem dX5_now_97 : decode cX5_now 97 = .ok (.iaload, 1) := by decide +kernel
theorem dX5_now_98 : decode cX5_now 98 = .ok (.invokevirtual 129, 3) := by decide +kernel
theorem dX5_now_101 : decode cX5_now 101 = .ok (.ireturn, 1) := by decide +kernel
theorem dX5_now_102 : decode cX5_now 102 = .ok (.ldc 151, 2) := by decide +kernel
theorem dX5_now_104 : decode cX5_now 104 = .ok (.ireturn, 1) := by decide +kernel
set_option maxRecDepth 20000 in
theorem ggX5_lit_X5_in : GoodIn wsX5_lit wsX5_in := goodIn_r _ [5] (by decide +kernel) (by decide +kernel)
set_option maxRecDepth 20000 in
theorem gX5_lit_X5_in : GoodIn wsX5_lit (va_wsS RX5 46 yX5_in wsX5_in) := goodIn_app (goodIn_of _ (by decide +kernel)) ggX5_lit_X5_in
set_option maxRecDepth 20000 in
theorem ggX5_lit_X5_isLit : GoodIn wsX5_lit wsX5_isLit := goodIn_r _ [9, 10, 11, 12, 13, 4, 14, 15, 16, 17, 18, 19, 20, 21, 22, 23, 24, 25, 26, 27, 28, 29, 30, 31, 32, 33, 34, 35, 36, 37, 38, 39, 40, 41, 42, 43, 44, 45, 46, 47, 48, 49] (by decide +kernel) (by decide +kernel)
set_option maxRecDepth 20000 in
theorem gX5_lit_X5_isLit : GoodIn wsX5_lit (wsV RX5 132 RX5 yX5_isLit wsX5_isLit) := goodIn_app (goodIn_of _ (by decide +kernel)) ggX5_lit_X5_isLit
theorem dX5_lit_0 : decode cX5_lit 0 = .ok (.iload_n 1, 1) := by decide +kernel
theorem dX5_lit_1 : decode cX5_lit 1 = .ok (.iconst 0, 1) := by decide +kernel
theorem dX5_lit_2 : decode cX5_lit 2 = .ok (.bipush 7, 2) := by decide +kernel
theorem dX5_lit_4 : decode cX5_lit 4 = .ok (.invokestatic 46, 3) := by decide +kernel
theorem dX5_lit_7 : decode cX5_lit 7 = .ok (.ifCond .eq 25, 3) := by decide +kernel
theorem dX5_lit_10 : decode cX5_lit 10 = .ok (.aload_n 0, 1) := by decide +kernel
theorem dX5_lit_11 : decode cX5_lit 11 = .ok (.aload_n 0, 1) := by decide +kernel
theorem dX5_lit_12 : decode cX5_lit 12 = .ok (.getfield 26, 3) := by decide +kernel
theorem dX5_lit_15 : decode cX5_lit 15 = .ok (.iconst 0, 1) := by decide +kernel
theorem dX5_lit_16 : decode cX5_lit 16 = .ok (.iaload, 1) := by decide +kernel
theorem dX5_lit_17 : decode cX5_lit 17 = .ok (.iload_n 1, 1) := by decide +kernel
theorem dX5_lit_18 : decode cX5_lit 18 = .ok (.invokevirtual 132, 3) := by decide +kernel
theorem dX5_lit_21 : decode cX5_lit 21 = .ok (.ifCond .eq 7, 3) := by decide +kernel
theorem dX5_lit_24 : decode cX5_lit 24 = .ok (.iconst 1, 1) := by decide +kernel
theorem dX5_lit_25 : decode cX5_lit 25 = .ok (.goto 8, 3) := by decide +kernel
theorem dX5_lit_28 : decode cX5_lit 28 = .ok (.iconst 0, 1) := by decide +kernel
theorem dX5_lit_29 : decode cX5_lit 29 = .ok (.goto 4, 3) := by decide +kernel
theorem dX5_lit_32 : decode cX5_lit 32 = .ok (.iconst (-1), 1) := by decide +kernel
theorem dX5_lit_33 : decode cX5_lit 33 = .ok (.ireturn, 1) := by decide +kernel
theorem dX5_reach_0 : decode cX5_reach 0 = .ok (.aload_n 0, 1) := by decide +kernel
theorem dX5_reach_1 : decode cX5_reach 1 = .ok (.getfield 33, 3) := by decide +kernel
theorem dX5_reach_4 : decode cX5_reach 4 = .ok (.iload_n 1, 1) := by decide +kernel
theorem dX5_reach_5 : decode cX5_reach 5 = .ok (.iaload, 1) := by decide +kernel
theorem dX5_reach_6 : decode cX5_reach 6 = .ok (.sipush 9999, 3) := by decide +kernel
theorem dX5_reach_9 : decode cX5_reach 9 = .ok (.if_icmp .ne 30, 3) := by decide +kernel
theorem dX5_reach_12 : decode cX5_reach 12 = .ok (.aload_n 0, 1) := by decide +kernel
theorem dX5_reach_13 : decode cX5_reach 13 = .ok (.getfield 33, 3) := by decide +kernel
theorem dX5_reach_16 : decode cX5_reach 16 = .ok (.iload_n 1, 1) := by decide +kernel
theorem dX5_reach_17 : decode cX5_reach 17 = .ok (.iload_n 2, 1) := by decide +kernel
theorem dX5_reach_18 : decode cX5_reach 18 = .ok (.iastore, 1) := by decide +kernel
theorem dX5_reach_19 : decode cX5_reach 19 = .ok (.aload_n 0, 1) := by decide +kernel
theorem dX5_reach_20 : decode cX5_reach 20 = .ok (.getfield 36, 3) := by decide +kernel
theorem dX5_reach_23 : decode cX5_reach 23 = .ok (.aload_n 0, 1) := by decide +kernel
theorem dX5_reach_24 : decode cX5_reach 24 = .ok (.getfield 152, 3) := by decide +kernel
theorem dX5_reach_27 : decode cX5_reach 27 = .ok (.iload_n 1, 1) := by decide +kernel
theorem dX5_reach_28 : decode cX5_reach 28 = .ok (.iastore, 1) := by decide +kernel
theorem dX5_reach_29 : decode cX5_reach 29 = .ok (.aload_n 0, 1) := by decide +kernel
theorem dX5_reach_30 : decode cX5_reach 30 = .ok (.dup, 1) := by decide +kernel
theorem dX5_reach_31 : decode cX5_reach 31 = .ok (.getfield 152, 3) := by decide +kernel
theorem dX5_reach_34 : decode cX5_reach 34 = .ok (.iconst 1, 1) := by decide +kernel
theorem dX5_reach_35 : decode cX5_reach 35 = .ok (.iadd, 1) := by decide +kernel
theorem dX5_reach_36 : decode cX5_reach 36 = .ok (.putfield 152, 3) := by decide +kernel
theorem dX5_reach_39 : decode cX5_reach 39 = .ok (.return_, 1) := by decide +kernel
theorem dX5_none_0 : decode cX5_none 0 = .ok (.iconst 0, 1) := by decide +kernel
theorem dX5_none_1 : decode cX5_none 1 = .ok (.istore_n 1, 1) := by decide +kernel
theorem dX5_none_2 : decode cX5_none 2 = .ok (.iload_n 1, 1) := by decide +kernel
theorem dX5_none_3 : decode cX5_none 3 = .ok (.sipush 6561, 3) := by decide +kernel
theorem dX5_none_6 : decode cX5_none 6 = .ok (.if_icmp .ge 18, 3) := by decide +kernel
theorem dX5_none_9 : decode cX5_none 9 = .ok (.aload_n 0, 1) := by decide +kernel
theorem dX5_none_10 : decode cX5_none 10 = .ok (.getfield 33, 3) := by decide +kernel
theorem dX5_none_13 : decode cX5_none 13 = .ok (.iload_n 1, 1) := by decide +kernel
theorem dX5_none_14 : decode cX5_none 14 = .ok (.sipush 9999, 3) := by decide +kernel
theorem dX5_none_17 : decode cX5_none 17 = .ok (.iastore, 1) := by decide +kernel
theorem dX5_none_18 : decode cX5_none 18 = .ok (.iinc 1 1, 3) := by decide +kernel
theorem dX5_none_21 : decode cX5_none 21 = .ok (.goto (-19), 3) := by decide +kernel
theorem dX5_none_24 : decode cX5_none 24 = .ok (.aload_n 0, 1) := by decide +kernel
theorem dX5_none_25 : decode cX5_none 25 = .ok (.iconst 0, 1) := by decide +kernel
theorem dX5_none_26 : decode cX5_none 26 = .ok (.putfield 152, 3) := by decide +kernel
theorem dX5_none_29 : decode cX5_none 29 = .ok (.return_, 1) := by decide +kernel
set_option maxRecDepth 20000 in
theorem ggX5_go_X5_slotIn : GoodIn wsX5_go wsX5_slotIn := goodIn_r _ [9, 3, 10, 11, 8, 12, 39, 40, 41, 42, 43, 44, 45, 46, 47, 48, 49, 50, 51, 52, 53, 54, 55, 56, 57] (by decide +kernel) (by decide +kernel)
set_option maxRecDepth 20000 in
theorem gX5_go_X5_slotIn : GoodIn wsX5_go (wsV RX5 110 RX5 yX5_slotIn wsX5_slotIn) := goodIn_app (goodIn_of _ (by decide +kernel)) ggX5_go_X5_slotIn
set_option maxRecDepth 20000 in
theorem ggX5_go_X5_panelAt : GoodIn wsX5_go wsX5_panelAt := goodIn_r _ [16, 3, 5, 6, 7, 8, 9, 10, 11, 12, 39, 40, 41, 42, 43, 44, 45, 46, 47, 48, 49, 50, 51, 52, 53, 54, 55, 56, 57] (by decide +kernel) (by decide +kernel)
set_option maxRecDepth 20000 in
theorem gX5_go_X5_panelAt : GoodIn wsX5_go (wsV RX5 120 RX5 yX5_panelAt wsX5_panelAt) := goodIn_app (goodIn_of _ (by decide +kernel)) ggX5_go_X5_panelAt
set_option maxRecDepth 20000 in
theorem ggX5_go_X5_with : GoodIn wsX5_go wsX5_with := goodIn_r _ [20, 3, 5, 6, 7, 8, 9, 10, 11, 12, 39, 40, 41, 42, 43, 44, 45, 46, 47, 48, 49, 50, 51, 52, 53, 54, 55, 56, 57] (by decide +kernel) (by decide +kernel)
set_option maxRecDepth 20000 in
theorem gX5_go_X5_with : GoodIn wsX5_go (wsV RX5 141 RX5 yX5_with wsX5_with) := goodIn_app (goodIn_of _ (by decide +kernel)) ggX5_go_X5_with
set_option maxRecDepth 20000 in
theorem ggX5_go_X5_isLawful : GoodIn wsX5_go wsX5_isLawful := goodIn_r _ [24, 3, 25, 26, 27, 8, 28, 5, 6, 7, 9, 10, 11, 12, 29, 30, 31, 32, 33, 34, 39, 40, 41, 42, 43, 44, 45, 46, 47, 48, 49, 50, 51, 52, 53, 54, 55, 56, 57] (by decide +kernel) (by decide +kernel)
set_option maxRecDepth 20000 in
theorem gX5_go_X5_isLawful : GoodIn wsX5_go (wsV RX5 138 RX5 yX5_isLawful wsX5_isLawful) := goodIn_app (goodIn_of _ (by decide +kernel)) ggX5_go_X5_isLawful
set_option maxRecDepth 20000 in
theorem ggX5_go_X5_reach : GoodIn wsX5_go wsX5_reach := goodIn_r _ [38, 4, 2, 1, 39, 40, 41, 42, 43, 44, 45, 46, 47, 48, 49, 50, 51, 52, 53, 54, 55, 56, 57] (by decide +kernel) (by decide +kernel)
set_option maxRecDepth 20000 in
theorem gX5_go_X5_reach : GoodIn wsX5_go (wsV RX5 155 RX5 yX5_reach wsX5_reach) := goodIn_app (goodIn_of _ (by decide +kernel)) ggX5_go_X5_reach
theorem dX5_go_0 : decode cX5_go 0 = .ok (.iconst 0, 1) := by decide +kernel
theorem dX5_go_1 : decode cX5_go 1 = .ok (.istore_n 2, 1) := by decide +kernel
theorem dX5_go_2 : decode cX5_go 2 = .ok (.iload_n 2, 1) := by decide +kernel
theorem dX5_go_3 : decode cX5_go 3 = .ok (.aload_n 0, 1) := by decide +kernel
theorem dX5_go_4 : decode cX5_go 4 = .ok (.getfield 152, 3) := by decide +kernel
theorem dX5_go_7 : decode cX5_go 7 = .ok (.if_icmp .ge 169, 3) := by decide +kernel
theorem dX5_go_10 : decode cX5_go 10 = .ok (.aload_n 0, 1) := by decide +kernel
theorem dX5_go_11 : decode cX5_go 11 = .ok (.getfield 36, 3) := by decide +kernel
theorem dX5_go_14 : decode cX5_go 14 = .ok (.iload_n 2, 1) := by decide +kernel
theorem dX5_go_15 : decode cX5_go 15 = .ok (.iaload, 1) := by decide +kernel
theorem dX5_go_16 : decode cX5_go 16 = .ok (.istore_n 3, 1) := by decide +kernel
theorem dX5_go_17 : decode cX5_go 17 = .ok (.iconst 0, 1) := by decide +kernel
theorem dX5_go_18 : decode cX5_go 18 = .ok (.istore 4, 2) := by decide +kernel
theorem dX5_go_20 : decode cX5_go 20 = .ok (.iload 4, 2) := by decide +kernel
theorem dX5_go_22 : decode cX5_go 22 = .ok (.aload_n 0, 1) := by decide +kernel
theorem dX5_go_23 : decode cX5_go 23 = .ok (.getfield 13, 3) := by decide +kernel
theorem dX5_go_26 : decode cX5_go 26 = .ok (.iconst 0, 1) := by decide +kernel
theorem dX5_go_27 : decode cX5_go 27 = .ok (.iaload, 1) := by decide +kernel
theorem dX5_go_28 : decode cX5_go 28 = .ok (.if_icmp .ge 142, 3) := by decide +kernel
theorem dX5_go_31 : decode cX5_go 31 = .ok (.aload_n 0, 1) := by decide +kernel
theorem dX5_go_32 : decode cX5_go 32 = .ok (.getfield 33, 3) := by decide +kernel
theorem dX5_go_35 : decode cX5_go 35 = .ok (.iload_n 3, 1) := by decide +kernel
theorem dX5_go_36 : decode cX5_go 36 = .ok (.iaload, 1) := by decide +kernel
theorem dX5_go_37 : decode cX5_go 37 = .ok (.iload_n 1, 1) := by decide +kernel
theorem dX5_go_38 : decode cX5_go 38 = .ok (.if_icmp .ge 132, 3) := by decide +kernel
theorem dX5_go_41 : decode cX5_go 41 = .ok (.aload_n 0, 1) := by decide +kernel
theorem dX5_go_42 : decode cX5_go 42 = .ok (.iload_n 3, 1) := by decide +kernel
theorem dX5_go_43 : decode cX5_go 43 = .ok (.iload 4, 2) := by decide +kernel
theorem dX5_go_45 : decode cX5_go 45 = .ok (.invokevirtual 110, 3) := by decide +kernel
theorem dX5_go_48 : decode cX5_go 48 = .ok (.bipush 8, 2) := by decide +kernel
theorem dX5_go_50 : decode cX5_go 50 = .ok (.if_icmp .ne 7, 3) := by decide +kernel
theorem dX5_go_53 : decode cX5_go 53 = .ok (.iconst 1, 1) := by decide +kernel
theorem dX5_go_54 : decode cX5_go 54 = .ok (.goto 4, 3) := by decide +kernel
theorem dX5_go_57 : decode cX5_go 57 = .ok (.iconst 0, 1) := by decide +kernel
theorem dX5_go_58 : decode cX5_go 58 = .ok (.istore 5, 2) := by decide +kernel
theorem dX5_go_60 : decode cX5_go 60 = .ok (.iconst 0, 1) := by decide +kernel
theorem dX5_go_61 : decode cX5_go 61 = .ok (.istore 6, 2) := by decide +kernel
theorem dX5_go_63 : decode cX5_go 63 = .ok (.iload 6, 2) := by decide +kernel
theorem dX5_go_65 : decode cX5_go 65 = .ok (.bipush 8, 2) := by decide +kernel
theorem dX5_go_67 : decode cX5_go 67 = .ok (.if_icmp .gt 97, 3) := by decide +kernel
theorem dX5_go_70 : decode cX5_go 70 = .ok (.iload 5, 2) := by decide +kernel
theorem dX5_go_72 : decode cX5_go 72 = .ok (.ifCond .eq 30, 3) := by decide +kernel
theorem dX5_go_75 : decode cX5_go 75 = .ok (.iload 6, 2) := by decide +kernel
theorem dX5_go_77 : decode cX5_go 77 = .ok (.bipush 8, 2) := by decide +kernel
theorem dX5_go_79 : decode cX5_go 79 = .ok (.if_icmp .ge 19, 3) := by decide +kernel
theorem dX5_go_82 : decode cX5_go 82 = .ok (.aload_n 0, 1) := by decide +kernel
theorem dX5_go_83 : decode cX5_go 83 = .ok (.iload_n 3, 1) := by decide +kernel
theorem dX5_go_84 : decode cX5_go 84 = .ok (.iload 6, 2) := by decide +kernel
theorem dX5_go_86 : decode cX5_go 86 = .ok (.invokevirtual 120, 3) := by decide +kernel
theorem dX5_go_89 : decode cX5_go 89 = .ok (.bipush (-9), 2) := by decide +kernel
theorem dX5_go_91 : decode cX5_go 91 = .ok (.if_icmp .ne 7, 3) := by decide +kernel
theorem dX5_go_94 : decode cX5_go 94 = .ok (.iconst 1, 1) := by decide +kernel
theorem dX5_go_95 : decode cX5_go 95 = .ok (.goto 19, 3) := by decide +kernel
theorem dX5_go_98 : decode cX5_go 98 = .ok (.iconst 0, 1) := by decide +kernel
theorem dX5_go_99 : decode cX5_go 99 = .ok (.goto 15, 3) := by decide +kernel
theorem dX5_go_102 : decode cX5_go 102 = .ok (.iload 6, 2) := by decide +kernel
theorem dX5_go_104 : decode cX5_go 104 = .ok (.bipush 8, 2) := by decide +kernel
theorem dX5_go_106 : decode cX5_go 106 = .ok (.if_icmp .ne 7, 3) := by decide +kernel
theorem dX5_go_109 : decode cX5_go 109 = .ok (.iconst 1, 1) := by decide +kernel
theorem dX5_go_110 : decode cX5_go 110 = .ok (.goto 4, 3) := by decide +kernel
theorem dX5_go_113 : decode cX5_go 113 = .ok (.iconst 0, 1) := by decide +kernel
theorem dX5_go_114 : decode cX5_go 114 = .ok (.istore 7, 2) := by decide +kernel
theorem dX5_go_116 : decode cX5_go 116 = .ok (.iload 7, 2) := by decide +kernel
theorem dX5_go_118 : decode cX5_go 118 = .ok (.ifCond .eq 40, 3) := by decide +kernel
theorem dX5_go_121 : decode cX5_go 121 = .ok (.aload_n 0, 1) := by decide +kernel
theorem dX5_go_122 : decode cX5_go 122 = .ok (.aload_n 0, 1) := by decide +kernel
theorem dX5_go_123 : decode cX5_go 123 = .ok (.iload_n 3, 1) := by decide +kernel
theorem dX5_go_124 : decode cX5_go 124 = .ok (.iload 4, 2) := by decide +kernel
theorem dX5_go_126 : decode cX5_go 126 = .ok (.iload 6, 2) := by decide +kernel
theorem dX5_go_128 : decode cX5_go 128 = .ok (.invokevirtual 141, 3) := by decide +kernel
theorem dX5_go_131 : decode cX5_go 131 = .ok (.invokevirtual 138, 3) := by decide +kernel
theorem dX5_go_134 : decode cX5_go 134 = .ok (.ifCond .eq 24, 3) := by decide +kernel
theorem dX5_go_137 : decode cX5_go 137 = .ok (.aload_n 0, 1) := by decide +kernel
theorem dX5_go_138 : decode cX5_go 138 = .ok (.aload_n 0, 1) := by decide +kernel
theorem dX5_go_139 : decode cX5_go 139 = .ok (.iload_n 3, 1) := by decide +kernel
theorem dX5_go_140 : decode cX5_go 140 = .ok (.iload 4, 2) := by decide +kernel
theorem dX5_go_142 : decode cX5_go 142 = .ok (.iload 6, 2) := by decide +kernel
theorem dX5_go_144 : decode cX5_go 144 = .ok (.invokevirtual 141, 3) := by decide +kernel
theorem dX5_go_147 : decode cX5_go 147 = .ok (.aload_n 0, 1) := by decide +kernel
theorem dX5_go_148 : decode cX5_go 148 = .ok (.getfield 33, 3) := by decide +kernel
theorem dX5_go_151 : decode cX5_go 151 = .ok (.iload_n 3, 1) := by decide +kernel
theorem dX5_go_152 : decode cX5_go 152 = .ok (.iaload, 1) := by decide +kernel
theorem dX5_go_153 : decode cX5_go 153 = .ok (.iconst 1, 1) := by decide +kernel
theorem dX5_go_154 : decode cX5_go 154 = .ok (.iadd, 1) := by decide +kernel
theorem dX5_go_155 : decode cX5_go 155 = .ok (.invokevirtual 155, 3) := by decide +kernel
theorem dX5_go_158 : decode cX5_go 158 = .ok (.iinc 6 1, 3) := by decide +kernel
theorem dX5_go_161 : decode cX5_go 161 = .ok (.goto (-98), 3) := by decide +kernel
theorem dX5_go_164 : decode cX5_go 164 = .ok (.iinc 4 1, 3) := by decide +kernel
theorem dX5_go_167 : decode cX5_go 167 = .ok (.goto (-147), 3) := by decide +kernel
theorem dX5_go_170 : decode cX5_go 170 = .ok (.iinc 2 1, 3) := by decide +kernel
theorem dX5_go_173 : decode cX5_go 173 = .ok (.goto (-171), 3) := by decide +kernel
theorem dX5_go_176 : decode cX5_go 176 = .ok (.return_, 1) := by decide +kernel
set_option maxRecDepth 20000 in
theorem ggX5_goFrom_X5_none : GoodIn wsX5_goFrom wsX5_none := goodIn_r _ [5, 6, 7, 47, 48, 49, 50, 51, 52, 53, 54, 55, 56, 57, 58, 59, 60, 61, 62, 63, 64, 65] (by decide +kernel) (by decide +kernel)
set_option maxRecDepth 20000 in
theorem gX5_goFrom_X5_none : GoodIn wsX5_goFrom (wsV RX5 159 RX5 yX5_none wsX5_none) := goodIn_app (goodIn_of _ (by decide +kernel)) ggX5_goFrom_X5_none
set_option maxRecDepth 20000 in
theorem ggX5_goFrom_X5_reach : GoodIn wsX5_goFrom wsX5_reach := goodIn_r _ [11, 6, 12, 7, 47, 48, 49, 50, 51, 52, 53, 54, 55, 56, 57, 58, 59, 60, 61, 62, 63, 64, 65] (by decide +kernel) (by decide +kernel)
set_option maxRecDepth 20000 in
theorem gX5_goFrom_X5_reach : GoodIn wsX5_goFrom (wsV RX5 155 RX5 yX5_reach wsX5_reach) := goodIn_app (goodIn_of _ (by decide +kernel)) ggX5_goFrom_X5_reach
set_option maxRecDepth 20000 in
theorem ggX5_goFrom_X5_go : GoodIn wsX5_goFrom wsX5_go := goodIn_r _ [16, 7, 12, 17, 6, 18, 19, 20, 4, 21, 22, 23, 24, 25, 26, 27, 28, 29, 30, 31, 32, 33, 34, 35, 36, 37, 38, 39, 40, 41, 42, 43, 44, 45, 46, 8, 9, 10, 11, 47, 48, 49, 50, 51, 52, 53, 54, 55, 56, 57, 58, 59, 60, 61, 62, 63, 64, 65] (by decide +kernel) (by decide +kernel)
set_option maxRecDepth 20000 in
theorem gX5_goFrom_X5_go : GoodIn wsX5_goFrom (wsV RX5 162 RX5 yX5_go wsX5_go) := goodIn_app (goodIn_of _ (by decide +kernel)) ggX5_goFrom_X5_go
theorem dX5_goFrom_0 : decode cX5_goFrom 0 = .ok (.aload_n 0, 1) := by decide +kernel
theorem dX5_goFrom_1 : decode cX5_goFrom 1 = .ok (.invokevirtual 159, 3) := by decide +kernel
theorem dX5_goFrom_4 : decode cX5_goFrom 4 = .ok (.aload_n 0, 1) := by decide +kernel
theorem dX5_goFrom_5 : decode cX5_goFrom 5 = .ok (.iload_n 1, 1) := by decide +kernel
theorem dX5_goFrom_6 : decode cX5_goFrom 6 = .ok (.iconst 0, 1) := by decide +kernel
theorem dX5_goFrom_7 : decode cX5_goFrom 7 = .ok (.invokevirtual 155, 3) := by decide +kernel
theorem dX5_goFrom_10 : decode cX5_goFrom 10 = .ok (.aload_n 0, 1) := by decide +kernel
theorem dX5_goFrom_11 : decode cX5_goFrom 11 = .ok (.sipush 9999, 3) := by decide +kernel
theorem dX5_goFrom_14 : decode cX5_goFrom 14 = .ok (.invokevirtual 162, 3) := by decide +kernel
theorem dX5_goFrom_17 : decode cX5_goFrom 17 = .ok (.return_, 1) := by decide +kernel
set_option maxRecDepth 20000 in
theorem ggX5_refuses_X5_in : GoodIn wsX5_refuses wsX5_in := goodIn_r _ [5] (by decide +kernel) (by decide +kernel)
set_option maxRecDepth 20000 in
theorem gX5_refuses_X5_in : GoodIn wsX5_refuses (va_wsS RX5 46 yX5_in wsX5_in) := goodIn_app (goodIn_of _ (by decide +kernel)) ggX5_refuses_X5_in
theorem dX5_refuses_0 : decode cX5_refuses 0 = .ok (.iload_n 1, 1) := by decide +kernel
theorem dX5_refuses_1 : decode cX5_refuses 1 = .ok (.iconst 0, 1) := by decide +kernel
theorem dX5_refuses_2 : decode cX5_refuses 2 = .ok (.iconst 1, 1) := by decide +kernel
theorem dX5_refuses_3 : decode cX5_refuses 3 = .ok (.invokestatic 46, 3) := by decide +kernel
theorem dX5_refuses_6 : decode cX5_refuses 6 = .ok (.ifCond .ne 7, 3) := by decide +kernel
theorem dX5_refuses_9 : decode cX5_refuses 9 = .ok (.iconst (-1), 1) := by decide +kernel
theorem dX5_refuses_10 : decode cX5_refuses 10 = .ok (.goto 18, 3) := by decide +kernel
theorem dX5_refuses_13 : decode cX5_refuses 13 = .ok (.aload_n 0, 1) := by decide +kernel
theorem dX5_refuses_14 : decode cX5_refuses 14 = .ok (.getfield 29, 3) := by decide +kernel
theorem dX5_refuses_17 : decode cX5_refuses 17 = .ok (.iload_n 1, 1) := by decide +kernel
theorem dX5_refuses_18 : decode cX5_refuses 18 = .ok (.baload, 1) := by decide +kernel
theorem dX5_refuses_19 : decode cX5_refuses 19 = .ok (.ifCond .eq 7, 3) := by decide +kernel
theorem dX5_refuses_22 : decode cX5_refuses 22 = .ok (.iconst 0, 1) := by decide +kernel
theorem dX5_refuses_23 : decode cX5_refuses 23 = .ok (.goto 5, 3) := by decide +kernel
theorem dX5_refuses_26 : decode cX5_refuses 26 = .ok (.bipush (-2), 2) := by decide +kernel
theorem dX5_refuses_28 : decode cX5_refuses 28 = .ok (.ireturn, 1) := by decide +kernel
theorem dX5_houseOf_0 : decode cX5_houseOf 0 = .ok (.aload_n 0, 1) := by decide +kernel
theorem dX5_houseOf_1 : decode cX5_houseOf 1 = .ok (.getfield 26, 3) := by decide +kernel
theorem dX5_houseOf_4 : decode cX5_houseOf 4 = .ok (.bipush 21, 2) := by decide +kernel
theorem dX5_houseOf_6 : decode cX5_houseOf 6 = .ok (.iconst 1, 1) := by decide +kernel
theorem dX5_houseOf_7 : decode cX5_houseOf 7 = .ok (.iload_n 1, 1) := by decide +kernel
theorem dX5_houseOf_8 : decode cX5_houseOf 8 = .ok (.iadd, 1) := by decide +kernel
theorem dX5_houseOf_9 : decode cX5_houseOf 9 = .ok (.imul, 1) := by decide +kernel
theorem dX5_houseOf_10 : decode cX5_houseOf 10 = .ok (.iconst 0, 1) := by decide +kernel
theorem dX5_houseOf_11 : decode cX5_houseOf 11 = .ok (.iadd, 1) := by decide +kernel
theorem dX5_houseOf_12 : decode cX5_houseOf 12 = .ok (.iaload, 1) := by decide +kernel
theorem dX5_houseOf_13 : decode cX5_houseOf 13 = .ok (.ireturn, 1) := by decide +kernel
set_option maxRecDepth 20000 in
theorem ggX5_fewest_X5_refuses : GoodIn wsX5_fewest wsX5_refuses := goodIn_r _ [7, 8, 9, 10, 6, 11, 64, 65, 66, 67, 68, 69, 70, 71, 72, 73, 74, 75, 76, 77, 78, 79, 80, 81, 82] (by decide +kernel) (by decide +kernel)
set_option maxRecDepth 20000 in
theorem gX5_fewest_X5_refuses : GoodIn wsX5_fewest (wsV RX5 165 RX5 yX5_refuses wsX5_refuses) := goodIn_app (goodIn_of _ (by decide +kernel)) ggX5_fewest_X5_refuses
set_option maxRecDepth 20000 in
theorem ggX5_fewest_X5_goFrom : GoodIn wsX5_fewest wsX5_goFrom := goodIn_r _ [15, 16, 17, 18, 6, 19, 2, 20, 21, 22, 23, 24, 25, 26, 27, 28, 29, 30, 31, 32, 33, 34, 35, 36, 37, 38, 39, 40, 41, 42, 43, 44, 45, 46, 47, 48, 49, 50, 51, 52, 53, 54, 55, 56, 57, 58, 59, 64, 65, 66, 67, 68, 69, 70, 71, 72, 73, 74, 75, 76, 77, 78, 79, 80, 81, 82] (by decide +kernel) (by decide +kernel)
set_option maxRecDepth 20000 in
theorem gX5_fewest_X5_goFrom : GoodIn wsX5_fewest (wsV RX5 168 RX5 yX5_goFrom wsX5_goFrom) := goodIn_app (goodIn_of _ (by decide +kernel)) ggX5_fewest_X5_goFrom
set_option maxRecDepth 20000 in
theorem ggX5_fewest_X5_houseOf : GoodIn wsX5_fewest wsX5_houseOf := goodIn_r _ [63, 1, 64, 65, 66, 67, 68, 69, 70, 71, 72, 73, 74, 75, 76, 77, 78, 79, 80, 81, 82] (by decide +kernel) (by decide +kernel)
set_option maxRecDepth 20000 in
theorem gX5_fewest_X5_houseOf : GoodIn wsX5_fewest (wsV RX5 171 RX5 yX5_houseOf wsX5_houseOf) := goodIn_app (goodIn_of _ (by decide +kernel)) ggX5_fewest_X5_houseOf
theorem dX5_fewest_0 : decode cX5_fewest 0 = .ok (.aload_n 0, 1) := by decide +kernel
theorem dX5_fewest_1 : decode cX5_fewest 1 = .ok (.iload_n 1, 1) := by decide +kernel
theorem dX5_fewest_2 : decode cX5_fewest 2 = .ok (.invokevirtual 165, 3) := by decide +kernel
theorem dX5_fewest_5 : decode cX5_fewest 5 = .ok (.ifCond .eq 9, 3) := by decide +kernel
theorem dX5_fewest_8 : decode cX5_fewest 8 = .ok (.aload_n 0, 1) := by decide +kernel
theorem dX5_fewest_9 : decode cX5_fewest 9 = .ok (.iload_n 1, 1) := by decide +kernel
theorem dX5_fewest_10 : decode cX5_fewest 10 = .ok (.invokevirtual 165, 3) := by decide +kernel
theorem dX5_fewest_13 : decode cX5_fewest 13 = .ok (.ireturn, 1) := by decide +kernel
theorem dX5_fewest_14 : decode cX5_fewest 14 = .ok (.aload_n 0, 1) := by decide +kernel
theorem dX5_fewest_15 : decode cX5_fewest 15 = .ok (.aload_n 0, 1) := by decide +kernel
theorem dX5_fewest_16 : decode cX5_fewest 16 = .ok (.getfield 26, 3) := by decide +kernel
theorem dX5_fewest_19 : decode cX5_fewest 19 = .ok (.iconst 0, 1) := by decide +kernel
theorem dX5_fewest_20 : decode cX5_fewest 20 = .ok (.iaload, 1) := by decide +kernel
theorem dX5_fewest_21 : decode cX5_fewest 21 = .ok (.invokevirtual 168, 3) := by decide +kernel
theorem dX5_fewest_24 : decode cX5_fewest 24 = .ok (.aload_n 0, 1) := by decide +kernel
theorem dX5_fewest_25 : decode cX5_fewest 25 = .ok (.getfield 33, 3) := by decide +kernel
theorem dX5_fewest_28 : decode cX5_fewest 28 = .ok (.aload_n 0, 1) := by decide +kernel
theorem dX5_fewest_29 : decode cX5_fewest 29 = .ok (.iload_n 1, 1) := by decide +kernel
theorem dX5_fewest_30 : decode cX5_fewest 30 = .ok (.invokevirtual 171, 3) := by decide +kernel
theorem dX5_fewest_33 : decode cX5_fewest 33 = .ok (.iaload, 1) := by decide +kernel
theorem dX5_fewest_34 : decode cX5_fewest 34 = .ok (.istore_n 2, 1) := by decide +kernel
theorem dX5_fewest_35 : decode cX5_fewest 35 = .ok (.iload_n 2, 1) := by decide +kernel
theorem dX5_fewest_36 : decode cX5_fewest 36 = .ok (.sipush 9999, 3) := by decide +kernel
theorem dX5_fewest_39 : decode cX5_fewest 39 = .ok (.if_icmp .ne 8, 3) := by decide +kernel
theorem dX5_fewest_42 : decode cX5_fewest 42 = .ok (.bipush (-9), 2) := by decide +kernel
theorem dX5_fewest_44 : decode cX5_fewest 44 = .ok (.goto 4, 3) := by decide +kernel
theorem dX5_fewest_47 : decode cX5_fewest 47 = .ok (.iload_n 2, 1) := by decide +kernel
theorem dX5_fewest_48 : decode cX5_fewest 48 = .ok (.ireturn, 1) := by decide +kernel
set_option maxRecDepth 20000 in
theorem ggX5_first_X5_refuses : GoodIn wsX5_first wsX5_refuses := goodIn_r _ [8, 9, 10, 11, 7, 12, 64, 65, 66, 67, 68, 69, 70, 71, 72, 73, 74, 75, 76, 77, 78, 79, 80, 81, 82] (by decide +kernel) (by decide +kernel)
set_option maxRecDepth 20000 in
theorem gX5_first_X5_refuses : GoodIn wsX5_first (wsV RX5 165 RX5 yX5_refuses wsX5_refuses) := goodIn_app (goodIn_of _ (by decide +kernel)) ggX5_first_X5_refuses
set_option maxRecDepth 20000 in
theorem ggX5_first_X5_houseOf : GoodIn wsX5_first wsX5_houseOf := goodIn_r _ [16, 1, 64, 65, 66, 67, 68, 69, 70, 71, 72, 73, 74, 75, 76, 77, 78, 79, 80, 81, 82] (by decide +kernel) (by decide +kernel)
set_option maxRecDepth 20000 in
theorem gX5_first_X5_houseOf : GoodIn wsX5_first (wsV RX5 171 RX5 yX5_houseOf wsX5_houseOf) := goodIn_app (goodIn_of _ (by decide +kernel)) ggX5_first_X5_houseOf
set_option maxRecDepth 20000 in
theorem ggX5_first_X5_isLawful : GoodIn wsX5_first wsX5_isLawful := goodIn_r _ [20, 2, 21, 22, 23, 7, 24, 25, 26, 27, 28, 29, 30, 31, 32, 33, 34, 35, 36, 37, 64, 65, 66, 67, 68, 69, 70, 71, 72, 73, 74, 75, 76, 77, 78, 79, 80, 81, 82] (by decide +kernel) (by decide +kernel)
set_option maxRecDepth 20000 in
theorem gX5_first_X5_isLawful : GoodIn wsX5_first (wsV RX5 138 RX5 yX5_isLawful wsX5_isLawful) := goodIn_app (goodIn_of _ (by decide +kernel)) ggX5_first_X5_isLawful
set_option maxRecDepth 20000 in
theorem ggX5_first_X5_goFrom : GoodIn wsX5_first wsX5_goFrom := goodIn_r _ [41, 42, 43, 44, 7, 45, 3, 46, 47, 48, 49, 50, 51, 52, 53, 54, 55, 2, 25, 26, 27, 28, 29, 30, 31, 56, 57, 58, 59, 60, 61, 62, 63, 17, 18, 19, 20, 21, 22, 23, 24, 32, 33, 34, 35, 36, 37, 64, 65, 66, 67, 68, 69, 70, 71, 72, 73, 74, 75, 76, 77, 78, 79, 80, 81, 82] (by decide +kernel) (by decide +kernel)
set_option maxRecDepth 20000 in
theorem gX5_first_X5_goFrom : GoodIn wsX5_first (wsV RX5 168 RX5 yX5_goFrom wsX5_goFrom) := goodIn_app (goodIn_of _ (by decide +kernel)) ggX5_first_X5_goFrom
set_option maxRecDepth 20000 in
theorem ggX5_first_X5_slotIn : GoodIn wsX5_first wsX5_slotIn := goodIn_r _ [28, 2, 29, 30, 7, 31, 64, 65, 66, 67, 68, 69, 70, 71, 72, 73, 74, 75, 76, 77, 78, 79, 80, 81, 82] (by decide +kernel) (by decide +kernel)
set_option maxRecDepth 20000 in
theorem gX5_first_X5_slotIn : GoodIn wsX5_first (wsV RX5 110 RX5 yX5_slotIn wsX5_slotIn) := goodIn_app (goodIn_of _ (by decide +kernel)) ggX5_first_X5_slotIn
set_option maxRecDepth 20000 in
theorem ggX5_first_X5_panelAt : GoodIn wsX5_first wsX5_panelAt := goodIn_r _ [59, 2, 25, 26, 27, 7, 28, 29, 30, 31, 64, 65, 66, 67, 68, 69, 70, 71, 72, 73, 74, 75, 76, 77, 78, 79, 80, 81, 82] (by decide +kernel) (by decide +kernel)
set_option maxRecDepth 20000 in
theorem gX5_first_X5_panelAt : GoodIn wsX5_first (wsV RX5 120 RX5 yX5_panelAt wsX5_panelAt) := goodIn_app (goodIn_of _ (by decide +kernel)) ggX5_first_X5_panelAt
set_option maxRecDepth 20000 in
theorem ggX5_first_X5_with : GoodIn wsX5_first wsX5_with := goodIn_r _ [63, 2, 25, 26, 27, 7, 28, 29, 30, 31, 64, 65, 66, 67, 68, 69, 70, 71, 72, 73, 74, 75, 76, 77, 78, 79, 80, 81, 82] (by decide +kernel) (by decide +kernel)
set_option maxRecDepth 20000 in
theorem gX5_first_X5_with : GoodIn wsX5_first (wsV RX5 141 RX5 yX5_with wsX5_with) := goodIn_app (goodIn_of _ (by decide +kernel)) ggX5_first_X5_with
theorem dX5_first_0 : decode cX5_first 0 = .ok (.aload_n 0, 1) := by decide +kernel
theorem dX5_first_1 : decode cX5_first 1 = .ok (.iload_n 1, 1) := by decide +kernel
theorem dX5_first_2 : decode cX5_first 2 = .ok (.invokevirtual 165, 3) := by decide +kernel
theorem dX5_first_5 : decode cX5_first 5 = .ok (.ifCond .eq 9, 3) := by decide +kernel
theorem dX5_first_8 : decode cX5_first 8 = .ok (.aload_n 0, 1) := by decide +kernel
theorem dX5_first_9 : decode cX5_first 9 = .ok (.iload_n 1, 1) := by decide +kernel
theorem dX5_first_10 : decode cX5_first 10 = .ok (.invokevirtual 165, 3) := by decide +kernel
theorem dX5_first_13 : decode cX5_first 13 = .ok (.ireturn, 1) := by decide +kernel
theorem dX5_first_14 : decode cX5_first 14 = .ok (.aload_n 0, 1) := by decide +kernel
theorem dX5_first_15 : decode cX5_first 15 = .ok (.getfield 26, 3) := by decide +kernel
theorem dX5_first_18 : decode cX5_first 18 = .ok (.iconst 0, 1) := by decide +kernel
theorem dX5_first_19 : decode cX5_first 19 = .ok (.iaload, 1) := by decide +kernel
theorem dX5_first_20 : decode cX5_first 20 = .ok (.istore_n 2, 1) := by decide +kernel
theorem dX5_first_21 : decode cX5_first 21 = .ok (.aload_n 0, 1) := by decide +kernel
theorem dX5_first_22 : decode cX5_first 22 = .ok (.iload_n 1, 1) := by decide +kernel
theorem dX5_first_23 : decode cX5_first 23 = .ok (.invokevirtual 171, 3) := by decide +kernel
theorem dX5_first_26 : decode cX5_first 26 = .ok (.istore_n 3, 1) := by decide +kernel
theorem dX5_first_27 : decode cX5_first 27 = .ok (.iload_n 2, 1) := by decide +kernel
theorem dX5_first_28 : decode cX5_first 28 = .ok (.iload_n 3, 1) := by decide +kernel
theorem dX5_first_29 : decode cX5_first 29 = .ok (.if_icmp .eq 11, 3) := by decide +kernel
theorem dX5_first_32 : decode cX5_first 32 = .ok (.aload_n 0, 1) := by decide +kernel
theorem dX5_first_33 : decode cX5_first 33 = .ok (.iload_n 3, 1) := by decide +kernel
theorem dX5_first_34 : decode cX5_first 34 = .ok (.invokevirtual 138, 3) := by decide +kernel
theorem dX5_first_37 : decode cX5_first 37 = .ok (.ifCond .ne 6, 3) := by decide +kernel
theorem dX5_first_40 : decode cX5_first 40 = .ok (.bipush (-9), 2) := by decide +kernel
theorem dX5_first_42 : decode cX5_first 42 = .ok (.ireturn, 1) := by decide +kernel
theorem dX5_first_43 : decode cX5_first 43 = .ok (.aload_n 0, 1) := by decide +kernel
theorem dX5_first_44 : decode cX5_first 44 = .ok (.iload_n 3, 1) := by decide +kernel
theorem dX5_first_45 : decode cX5_first 45 = .ok (.invokevirtual 168, 3) := by decide +kernel
theorem dX5_first_48 : decode cX5_first 48 = .ok (.bipush (-9), 2) := by decide +kernel
theorem dX5_first_50 : decode cX5_first 50 = .ok (.istore 4, 2) := by decide +kernel
theorem dX5_first_52 : decode cX5_first 52 = .ok (.sipush 9999, 3) := by decide +kernel
theorem dX5_first_55 : decode cX5_first 55 = .ok (.istore 5, 2) := by decide +kernel
theorem dX5_first_57 : decode cX5_first 57 = .ok (.iconst 0, 1) := by decide +kernel
theorem dX5_first_58 : decode cX5_first 58 = .ok (.istore 6, 2) := by decide +kernel
theorem dX5_first_60 : decode cX5_first 60 = .ok (.iload 6, 2) := by decide +kernel
theorem dX5_first_62 : decode cX5_first 62 = .ok (.aload_n 0, 1) := by decide +kernel
theorem dX5_first_63 : decode cX5_first 63 = .ok (.getfield 13, 3) := by decide +kernel
theorem dX5_first_66 : decode cX5_first 66 = .ok (.iconst 0, 1) := by decide +kernel
theorem dX5_first_67 : decode cX5_first 67 = .ok (.iaload, 1) := by decide +kernel
theorem dX5_first_68 : decode cX5_first 68 = .ok (.if_icmp .ge 146, 3) := by decide +kernel
theorem dX5_first_71 : decode cX5_first 71 = .ok (.aload_n 0, 1) := by decide +kernel
theorem dX5_first_72 : decode cX5_first 72 = .ok (.iload_n 2, 1) := by decide +kernel
theorem dX5_first_73 : decode cX5_first 73 = .ok (.iload 6, 2) := by decide +kernel
theorem dX5_first_75 : decode cX5_first 75 = .ok (.invokevirtual 110, 3) := by decide +kernel
theorem dX5_first_78 : decode cX5_first 78 = .ok (.bipush 8, 2) := by decide +kernel
theorem dX5_first_80 : decode cX5_first 80 = .ok (.if_icmp .ne 7, 3) := by decide +kernel
theorem dX5_first_83 : decode cX5_first 83 = .ok (.iconst 1, 1) := by decide +kernel
theorem dX5_first_84 : decode cX5_first 84 = .ok (.goto 4, 3) := by decide +kernel
theorem dX5_first_87 : decode cX5_first 87 = .ok (.iconst 0, 1) := by decide +kernel
theorem dX5_first_88 : decode cX5_first 88 = .ok (.istore 7, 2) := by decide +kernel
theorem dX5_first_90 : decode cX5_first 90 = .ok (.iconst 0, 1) := by decide +kernel
theorem dX5_first_91 : decode cX5_first 91 = .ok (.istore 8, 2) := by decide +kernel
theorem dX5_first_93 : decode cX5_first 93 = .ok (.iload 8, 2) := by decide +kernel
theorem dX5_first_95 : decode cX5_first 95 = .ok (.bipush 8, 2) := by decide +kernel
theorem dX5_first_97 : decode cX5_first 97 = .ok (.if_icmp .gt 111, 3) := by decide +kernel
theorem dX5_first_100 : decode cX5_first 100 = .ok (.iload 7, 2) := by decide +kernel
theorem dX5_first_102 : decode cX5_first 102 = .ok (.ifCond .eq 30, 3) := by decide +kernel
theorem dX5_first_105 : decode cX5_first 105 = .ok (.iload 8, 2) := by decide +kernel
theorem dX5_first_107 : decode cX5_first 107 = .ok (.bipush 8, 2) := by decide +kernel
theorem dX5_first_109 : decode cX5_first 109 = .ok (.if_icmp .ge 19, 3) := by decide +kernel
theorem dX5_first_112 : decode cX5_first 112 = .ok (.aload_n 0, 1) := by decide +kernel
theorem dX5_first_113 : decode cX5_first 113 = .ok (.iload_n 2, 1) := by decide +kernel
theorem dX5_first_114 : decode cX5_first 114 = .ok (.iload 8, 2) := by decide +kernel
theorem dX5_first_116 : decode cX5_first 116 = .ok (.invokevirtual 120, 3) := by decide +kernel
theorem dX5_first_119 : decode cX5_first 119 = .ok (.bipush (-9), 2) := by decide +kernel
theorem dX5_first_121 : decode cX5_first 121 = .ok (.if_icmp .ne 7, 3) := by decide +kernel
theorem dX5_first_124 : decode cX5_first 124 = .ok (.iconst 1, 1) := by decide +kernel
theorem dX5_first_125 : decode cX5_first 125 = .ok (.goto 19, 3) := by decide +kernel
theorem dX5_first_128 : decode cX5_first 128 = .ok (.iconst 0, 1) := by decide +kernel
theorem dX5_first_129 : decode cX5_first 129 = .ok (.goto 15, 3) := by decide +kernel
theorem dX5_first_132 : decode cX5_first 132 = .ok (.iload 8, 2) := by decide +kernel
theorem dX5_first_134 : decode cX5_first 134 = .ok (.bipush 8, 2) := by decide +kernel
theorem dX5_first_136 : decode cX5_first 136 = .ok (.if_icmp .ne 7, 3) := by decide +kernel
theorem dX5_first_139 : decode cX5_first 139 = .ok (.iconst 1, 1) := by decide +kernel
theorem dX5_first_140 : decode cX5_first 140 = .ok (.goto 4, 3) := by decide +kernel
theorem dX5_first_143 : decode cX5_first 143 = .ok (.iconst 0, 1) := by decide +kernel
theorem dX5_first_144 : decode cX5_first 144 = .ok (.istore 9, 2) := by decide +kernel
theorem dX5_first_146 : decode cX5_first 146 = .ok (.aload_n 0, 1) := by decide +kernel
theorem dX5_first_147 : decode cX5_first 147 = .ok (.iload_n 2, 1) := by decide +kernel
theorem dX5_first_148 : decode cX5_first 148 = .ok (.iload 6, 2) := by decide +kernel
theorem dX5_first_150 : decode cX5_first 150 = .ok (.iload 8, 2) := by decide +kernel
theorem dX5_first_152 : decode cX5_first 152 = .ok (.invokevirtual 141, 3) := by decide +kernel
theorem dX5_first_155 : decode cX5_first 155 = .ok (.istore 10, 2) := by decide +kernel
theorem dX5_first_157 : decode cX5_first 157 = .ok (.iload 9, 2) := by decide +kernel
theorem dX5_first_159 : decode cX5_first 159 = .ok (.ifCond .eq 43, 3) := by decide +kernel
theorem dX5_first_162 : decode cX5_first 162 = .ok (.aload_n 0, 1) := by decide +kernel
theorem dX5_first_163 : decode cX5_first 163 = .ok (.iload 10, 2) := by decide +kernel
theorem dX5_first_165 : decode cX5_first 165 = .ok (.invokevirtual 138, 3) := by decide +kernel
theorem dX5_first_168 : decode cX5_first 168 = .ok (.ifCond .eq 34, 3) := by decide +kernel
theorem dX5_first_171 : decode cX5_first 171 = .ok (.aload_n 0, 1) := by decide +kernel
theorem dX5_first_172 : decode cX5_first 172 = .ok (.getfield 33, 3) := by decide +kernel
theorem dX5_first_175 : decode cX5_first 175 = .ok (.iload 10, 2) := by decide +kernel
theorem dX5_first_177 : decode cX5_first 177 = .ok (.iaload, 1) := by decide +kernel
theorem dX5_first_178 : decode cX5_first 178 = .ok (.iload 5, 2) := by decide +kernel
theorem dX5_first_180 : decode cX5_first 180 = .ok (.if_icmp .ge 22, 3) := by decide +kernel
theorem dX5_first_183 : decode cX5_first 183 = .ok (.bipush 10, 2) := by decide +kernel
theorem dX5_first_185 : decode cX5_first 185 = .ok (.iload 6, 2) := by decide +kernel
theorem dX5_first_187 : decode cX5_first 187 = .ok (.imul, 1) := by decide +kernel
theorem dX5_first_188 : decode cX5_first 188 = .ok (.iload 8, 2) := by decide +kernel
theorem dX5_first_190 : decode cX5_first 190 = .ok (.iadd, 1) := by decide +kernel
theorem dX5_first_191 : decode cX5_first 191 = .ok (.istore 4, 2) := by decide +kernel
theorem dX5_first_193 : decode cX5_first 193 = .ok (.aload_n 0, 1) := by decide +kernel
theorem dX5_first_194 : decode cX5_first 194 = .ok (.getfield 33, 3) := by decide +kernel
theorem dX5_first_197 : decode cX5_first 197 = .ok (.iload 10, 2) := by decide +kernel
theorem dX5_first_199 : decode cX5_first 199 = .ok (.iaload, 1) := by decide +kernel
theorem dX5_first_200 : decode cX5_first 200 = .ok (.istore 5, 2) := by decide +kernel
theorem dX5_first_202 : decode cX5_first 202 = .ok (.iinc 8 1, 3) := by decide +kernel
theorem dX5_first_205 : decode cX5_first 205 = .ok (.goto (-112), 3) := by decide +kernel
theorem dX5_first_208 : decode cX5_first 208 = .ok (.iinc 6 1, 3) := by decide +kernel
theorem dX5_first_211 : decode cX5_first 211 = .ok (.goto (-151), 3) := by decide +kernel
theorem dX5_first_214 : decode cX5_first 214 = .ok (.iload 4, 2) := by decide +kernel
theorem dX5_first_216 : decode cX5_first 216 = .ok (.ireturn, 1) := by decide +kernel
set_option maxRecDepth 20000 in
theorem ggX5_nights_X5_refuses : GoodIn wsX5_nights wsX5_refuses := goodIn_r _ [9, 10, 11, 12, 8, 13, 73, 74, 75, 76, 77, 78, 79, 80, 81, 82, 83, 84, 85, 86, 87, 88, 89, 90, 91] (by decide +kernel) (by decide +kernel)
set_option maxRecDepth 20000 in
theorem gX5_nights_X5_refuses : GoodIn wsX5_nights (wsV RX5 165 RX5 yX5_refuses wsX5_refuses) := goodIn_app (goodIn_of _ (by decide +kernel)) ggX5_nights_X5_refuses
set_option maxRecDepth 20000 in
theorem ggX5_nights_X5_houseOf : GoodIn wsX5_nights wsX5_houseOf := goodIn_r _ [17, 1, 73, 74, 75, 76, 77, 78, 79, 80, 81, 82, 83, 84, 85, 86, 87, 88, 89, 90, 91] (by decide +kernel) (by decide +kernel)
set_option maxRecDepth 20000 in
theorem gX5_nights_X5_houseOf : GoodIn wsX5_nights (wsV RX5 171 RX5 yX5_houseOf wsX5_houseOf) := goodIn_app (goodIn_of _ (by decide +kernel)) ggX5_nights_X5_houseOf
set_option maxRecDepth 20000 in
theorem ggX5_nights_X5_none : GoodIn wsX5_nights wsX5_none := goodIn_r _ [21, 3, 22, 73, 74, 75, 76, 77, 78, 79, 80, 81, 82, 83, 84, 85, 86, 87, 88, 89, 90, 91] (by decide +kernel) (by decide +kernel)
set_option maxRecDepth 20000 in
theorem gX5_nights_X5_none : GoodIn wsX5_nights (wsV RX5 159 RX5 yX5_none wsX5_none) := goodIn_app (goodIn_of _ (by decide +kernel)) ggX5_nights_X5_none
set_option maxRecDepth 20000 in
theorem ggX5_nights_X5_reach : GoodIn wsX5_nights wsX5_reach := goodIn_r _ [26, 3, 27, 22, 73, 74, 75, 76, 77, 78, 79, 80, 81, 82, 83, 84, 85, 86, 87, 88, 89, 90, 91] (by decide +kernel) (by decide +kernel)
set_option maxRecDepth 20000 in
theorem gX5_nights_X5_reach : GoodIn wsX5_nights (wsV RX5 155 RX5 yX5_reach wsX5_reach) := goodIn_app (goodIn_of _ (by decide +kernel)) ggX5_nights_X5_reach
set_option maxRecDepth 20000 in
theorem ggX5_nights_X5_go : GoodIn wsX5_nights wsX5_go := goodIn_r _ [31, 22, 27, 2, 3, 32, 33, 34, 8, 35, 36, 37, 38, 39, 40, 41, 42, 43, 44, 45, 46, 47, 48, 49, 50, 51, 52, 53, 54, 55, 56, 57, 58, 59, 60, 23, 24, 25, 26, 73, 74, 75, 76, 77, 78, 79, 80, 81, 82, 83, 84, 85, 86, 87, 88, 89, 90, 91] (by decide +kernel) (by decide +kernel)
set_option maxRecDepth 20000 in
theorem gX5_nights_X5_go : GoodIn wsX5_nights (wsV RX5 162 RX5 yX5_go wsX5_go) := goodIn_app (goodIn_of _ (by decide +kernel)) ggX5_nights_X5_go
set_option maxRecDepth 20000 in
theorem ggX5_nights_X5_houses : GoodIn wsX5_nights wsX5_houses := goodIn_r _ [64, 2, 36, 37, 8, 38, 73, 74, 75, 76, 77, 78, 79, 80, 81, 82, 83, 84, 85, 86, 87, 88, 89, 90, 91] (by decide +kernel) (by decide +kernel)
set_option maxRecDepth 20000 in
theorem gX5_nights_X5_houses : GoodIn wsX5_nights (wsV RX5 174 RX5 yX5_houses wsX5_houses) := goodIn_app (goodIn_of _ (by decide +kernel)) ggX5_nights_X5_houses
set_option maxRecDepth 20000 in
theorem ggX5_nights_X5_leaksIn : GoodIn wsX5_nights wsX5_leaksIn := goodIn_r _ [68, 2, 69, 70, 71, 8, 72, 59, 39, 40, 41, 42, 32, 33, 34, 35, 36, 37, 38, 11, 12, 13, 73, 74, 75, 76, 77, 78, 79, 80, 81, 82, 83, 84, 85, 86, 87, 88, 89, 90, 91] (by decide +kernel) (by decide +kernel)
set_option maxRecDepth 20000 in
theorem gX5_nights_X5_leaksIn : GoodIn wsX5_nights (wsV RX5 129 RX5 yX5_leaksIn wsX5_leaksIn) := goodIn_app (goodIn_of _ (by decide +kernel)) ggX5_nights_X5_leaksIn
theorem dX5_nights_0 : decode cX5_nights 0 = .ok (.aload_n 0, 1) := by decide +kernel
theorem dX5_nights_1 : decode cX5_nights 1 = .ok (.iload_n 1, 1) := by decide +kernel
theorem dX5_nights_2 : decode cX5_nights 2 = .ok (.invokevirtual 165, 3) := by decide +kernel
theorem dX5_nights_5 : decode cX5_nights 5 = .ok (.ifCond .eq 9, 3) := by decide +kernel
theorem dX5_nights_8 : decode cX5_nights 8 = .ok (.aload_n 0, 1) := by decide +kernel
theorem dX5_nights_9 : decode cX5_nights 9 = .ok (.iload_n 1, 1) := by decide +kernel
theorem dX5_nights_10 : decode cX5_nights 10 = .ok (.invokevirtual 165, 3) := by decide +kernel
theorem dX5_nights_13 : decode cX5_nights 13 = .ok (.ireturn, 1) := by decide +kernel
theorem dX5_nights_14 : decode cX5_nights 14 = .ok (.aload_n 0, 1) := by decide +kernel
theorem dX5_nights_15 : decode cX5_nights 15 = .ok (.iload_n 1, 1) := by decide +kernel
theorem dX5_nights_16 : decode cX5_nights 16 = .ok (.invokevirtual 171, 3) := by decide +kernel
theorem dX5_nights_19 : decode cX5_nights 19 = .ok (.istore_n 2, 1) := by decide +kernel
theorem dX5_nights_20 : decode cX5_nights 20 = .ok (.aload_n 0, 1) := by decide +kernel
theorem dX5_nights_21 : decode cX5_nights 21 = .ok (.invokevirtual 159, 3) := by decide +kernel
theorem dX5_nights_24 : decode cX5_nights 24 = .ok (.aload_n 0, 1) := by decide +kernel
theorem dX5_nights_25 : decode cX5_nights 25 = .ok (.aload_n 0, 1) := by decide +kernel
theorem dX5_nights_26 : decode cX5_nights 26 = .ok (.getfield 26, 3) := by decide +kernel
theorem dX5_nights_29 : decode cX5_nights 29 = .ok (.iconst 0, 1) := by decide +kernel
theorem dX5_nights_30 : decode cX5_nights 30 = .ok (.iaload, 1) := by decide +kernel
theorem dX5_nights_31 : decode cX5_nights 31 = .ok (.iconst 0, 1) := by decide +kernel
theorem dX5_nights_32 : decode cX5_nights 32 = .ok (.invokevirtual 155, 3) := by decide +kernel
theorem dX5_nights_35 : decode cX5_nights 35 = .ok (.aload_n 0, 1) := by decide +kernel
theorem dX5_nights_36 : decode cX5_nights 36 = .ok (.aload_n 0, 1) := by decide +kernel
theorem dX5_nights_37 : decode cX5_nights 37 = .ok (.getfield 13, 3) := by decide +kernel
theorem dX5_nights_40 : decode cX5_nights 40 = .ok (.bipush 7, 2) := by decide +kernel
theorem dX5_nights_42 : decode cX5_nights 42 = .ok (.iaload, 1) := by decide +kernel
theorem dX5_nights_43 : decode cX5_nights 43 = .ok (.aload_n 0, 1) := by decide +kernel
theorem dX5_nights_44 : decode cX5_nights 44 = .ok (.getfield 26, 3) := by decide +kernel
theorem dX5_nights_47 : decode cX5_nights 47 = .ok (.iconst 2, 1) := by decide +kernel
theorem dX5_nights_48 : decode cX5_nights 48 = .ok (.iaload, 1) := by decide +kernel
theorem dX5_nights_49 : decode cX5_nights 49 = .ok (.isub, 1) := by decide +kernel
theorem dX5_nights_50 : decode cX5_nights 50 = .ok (.invokevirtual 162, 3) := by decide +kernel
theorem dX5_nights_53 : decode cX5_nights 53 = .ok (.iconst 0, 1) := by decide +kernel
theorem dX5_nights_54 : decode cX5_nights 54 = .ok (.istore_n 3, 1) := by decide +kernel
theorem dX5_nights_55 : decode cX5_nights 55 = .ok (.iload_n 3, 1) := by decide +kernel
theorem dX5_nights_56 : decode cX5_nights 56 = .ok (.bipush 20, 2) := by decide +kernel
theorem dX5_nights_58 : decode cX5_nights 58 = .ok (.if_icmp .gt 125, 3) := by decide +kernel
theorem dX5_nights_61 : decode cX5_nights 61 = .ok (.aload_n 0, 1) := by decide +kernel
theorem dX5_nights_62 : decode cX5_nights 62 = .ok (.getfield 33, 3) := by decide +kernel
theorem dX5_nights_65 : decode cX5_nights 65 = .ok (.iload_n 2, 1) := by decide +kernel
theorem dX5_nights_66 : decode cX5_nights 66 = .ok (.iaload, 1) := by decide +kernel
theorem dX5_nights_67 : decode cX5_nights 67 = .ok (.sipush 9999, 3) := by decide +kernel
theorem dX5_nights_70 : decode cX5_nights 70 = .ok (.if_icmp .ge 5, 3) := by decide +kernel
theorem dX5_nights_73 : decode cX5_nights 73 = .ok (.iload_n 3, 1) := by decide +kernel
theorem dX5_nights_74 : decode cX5_nights 74 = .ok (.ireturn, 1) := by decide +kernel
theorem dX5_nights_75 : decode cX5_nights 75 = .ok (.iconst 0, 1) := by decide +kernel
theorem dX5_nights_76 : decode cX5_nights 76 = .ok (.istore 4, 2) := by decide +kernel
theorem dX5_nights_78 : decode cX5_nights 78 = .ok (.iload 4, 2) := by decide +kernel
theorem dX5_nights_80 : decode cX5_nights 80 = .ok (.aload_n 0, 1) := by decide +kernel
theorem dX5_nights_81 : decode cX5_nights 81 = .ok (.invokevirtual 174, 3) := by decide +kernel
theorem dX5_nights_84 : decode cX5_nights 84 = .ok (.if_icmp .ge 43, 3) := by decide +kernel
theorem dX5_nights_87 : decode cX5_nights 87 = .ok (.aload_n 0, 1) := by decide +kernel
theorem dX5_nights_88 : decode cX5_nights 88 = .ok (.getfield 39, 3) := by decide +kernel
theorem dX5_nights_91 : decode cX5_nights 91 = .ok (.iload 4, 2) := by decide +kernel
theorem dX5_nights_93 : decode cX5_nights 93 = .ok (.aload_n 0, 1) := by decide +kernel
theorem dX5_nights_94 : decode cX5_nights 94 = .ok (.getfield 33, 3) := by decide +kernel
theorem dX5_nights_97 : decode cX5_nights 97 = .ok (.iload 4, 2) := by decide +kernel
theorem dX5_nights_99 : decode cX5_nights 99 = .ok (.iaload, 1) := by decide +kernel
theorem dX5_nights_100 : decode cX5_nights 100 = .ok (.sipush 9999, 3) := by decide +kernel
theorem dX5_nights_103 : decode cX5_nights 103 = .ok (.if_icmp .ge 16, 3) := by decide +kernel
theorem dX5_nights_106 : decode cX5_nights 106 = .ok (.aload_n 0, 1) := by decide +kernel
theorem dX5_nights_107 : decode cX5_nights 107 = .ok (.iload 4, 2) := by decide +kernel
theorem dX5_nights_109 : decode cX5_nights 109 = .ok (.invokevirtual 129, 3) := by decide +kernel
theorem dX5_nights_112 : decode cX5_nights 112 = .ok (.ifCond .ne 7, 3) := by decide +kernel
theorem dX5_nights_115 : decode cX5_nights 115 = .ok (.iconst 1, 1) := by decide +kernel
theorem dX5_nights_116 : decode cX5_nights 116 = .ok (.goto 4, 3) := by decide +kernel
theorem dX5_nights_119 : decode cX5_nights 119 = .ok (.iconst 0, 1) := by decide +kernel
theorem dX5_nights_120 : decode cX5_nights 120 = .ok (.bastore, 1) := by decide +kernel
theorem dX5_nights_121 : decode cX5_nights 121 = .ok (.iinc 4 1, 3) := by decide +kernel
theorem dX5_nights_124 : decode cX5_nights 124 = .ok (.goto (-46), 3) := by decide +kernel
theorem dX5_nights_127 : decode cX5_nights 127 = .ok (.aload_n 0, 1) := by decide +kernel
theorem dX5_nights_128 : decode cX5_nights 128 = .ok (.invokevirtual 159, 3) := by decide +kernel
theorem dX5_nights_131 : decode cX5_nights 131 = .ok (.iconst 0, 1) := by decide +kernel
theorem dX5_nights_132 : decode cX5_nights 132 = .ok (.istore 4, 2) := by decide +kernel
theorem dX5_nights_134 : decode cX5_nights 134 = .ok (.iload 4, 2) := by decide +kernel
theorem dX5_nights_136 : decode cX5_nights 136 = .ok (.aload_n 0, 1) := by decide +kernel
theorem dX5_nights_137 : decode cX5_nights 137 = .ok (.invokevirtual 174, 3) := by decide +kernel
theorem dX5_nights_140 : decode cX5_nights 140 = .ok (.if_icmp .ge 26, 3) := by decide +kernel
theorem dX5_nights_143 : decode cX5_nights 143 = .ok (.aload_n 0, 1) := by decide +kernel
theorem dX5_nights_144 : decode cX5_nights 144 = .ok (.getfield 39, 3) := by decide +kernel
theorem dX5_nights_147 : decode cX5_nights 147 = .ok (.iload 4, 2) := by decide +kernel
theorem dX5_nights_149 : decode cX5_nights 149 = .ok (.baload, 1) := by decide +kernel
theorem dX5_nights_150 : decode cX5_nights 150 = .ok (.ifCond .eq 10, 3) := by decide +kernel
theorem dX5_nights_153 : decode cX5_nights 153 = .ok (.aload_n 0, 1) := by decide +kernel
theorem dX5_nights_154 : decode cX5_nights 154 = .ok (.iload 4, 2) := by decide +kernel
theorem dX5_nights_156 : decode cX5_nights 156 = .ok (.iconst 0, 1) := by decide +kernel
theorem dX5_nights_157 : decode cX5_nights 157 = .ok (.invokevirtual 155, 3) := by decide +kernel
theorem dX5_nights_160 : decode cX5_nights 160 = .ok (.iinc 4 1, 3) := by decide +kernel
theorem dX5_nights_163 : decode cX5_nights 163 = .ok (.goto (-29), 3) := by decide +kernel
theorem dX5_nights_166 : decode cX5_nights 166 = .ok (.aload_n 0, 1) := by decide +kernel
theorem dX5_nights_167 : decode cX5_nights 167 = .ok (.aload_n 0, 1) := by decide +kernel
theorem dX5_nights_168 : decode cX5_nights 168 = .ok (.getfield 13, 3) := by decide +kernel
theorem dX5_nights_171 : decode cX5_nights 171 = .ok (.bipush 7, 2) := by decide +kernel
theorem dX5_nights_173 : decode cX5_nights 173 = .ok (.iaload, 1) := by decide +kernel
theorem dX5_nights_174 : decode cX5_nights 174 = .ok (.invokevirtual 162, 3) := by decide +kernel
theorem dX5_nights_177 : decode cX5_nights 177 = .ok (.iinc 3 1, 3) := by decide +kernel
theorem dX5_nights_180 : decode cX5_nights 180 = .ok (.goto (-125), 3) := by decide +kernel
theorem dX5_nights_183 : decode cX5_nights 183 = .ok (.bipush (-9), 2) := by decide +kernel
theorem dX5_nights_185 : decode cX5_nights 185 = .ok (.ireturn, 1) := by decide +kernel
set_option maxRecDepth 20000 in
theorem ggX5_piano_X5_in : GoodIn wsX5_piano wsX5_in := goodIn_r _ [8] (by decide +kernel) (by decide +kernel)
set_option maxRecDepth 20000 in
theorem gX5_piano_X5_in : GoodIn wsX5_piano (va_wsS RX5 46 yX5_in wsX5_in) := goodIn_app (goodIn_of _ (by decide +kernel)) ggX5_piano_X5_in
set_option maxRecDepth 20000 in
theorem ggX5_piano_X5_goFrom : GoodIn wsX5_piano wsX5_goFrom := goodIn_r _ [12, 13, 14, 15, 7, 16, 4, 2, 17, 18, 19, 20, 3, 21, 22, 23, 24, 25, 26, 27, 28, 29, 30, 31, 32, 33, 34, 35, 36, 37, 38, 39, 40, 41, 42, 43, 44, 45, 46, 47, 48, 49, 50, 51, 52, 53, 54, 55, 56, 57, 58, 59, 60, 61, 62, 63, 64, 65, 66, 67, 68, 69, 70, 71, 72, 73] (by decide +kernel) (by decide +kernel)
set_option maxRecDepth 20000 in
theorem gX5_piano_X5_goFrom : GoodIn wsX5_piano (wsV RX5 168 RX5 yX5_goFrom wsX5_goFrom) := goodIn_app (goodIn_of _ (by decide +kernel)) ggX5_piano_X5_goFrom
set_option maxRecDepth 20000 in
theorem ggX5_piano_X5_panelAt : GoodIn wsX5_piano wsX5_panelAt := goodIn_r _ [36, 25, 26, 27, 28, 7, 29, 30, 31, 32, 55, 56, 57, 58, 59, 60, 61, 62, 63, 64, 65, 66, 67, 68, 69, 70, 71, 72, 73] (by decide +kernel) (by decide +kernel)
set_option maxRecDepth 20000 in
theorem gX5_piano_X5_panelAt : GoodIn wsX5_piano (wsV RX5 120 RX5 yX5_panelAt wsX5_panelAt) := goodIn_app (goodIn_of _ (by decide +kernel)) ggX5_piano_X5_panelAt
theorem dX5_piano_0 : decode cX5_piano 0 = .ok (.iload_n 1, 1) := by decide +kernel
theorem dX5_piano_1 : decode cX5_piano 1 = .ok (.iconst 0, 1) := by decide +kernel
theorem dX5_piano_2 : decode cX5_piano 2 = .ok (.bipush 7, 2) := by decide +kernel
theorem dX5_piano_4 : decode cX5_piano 4 = .ok (.invokestatic 46, 3) := by decide +kernel
theorem dX5_piano_7 : decode cX5_piano 7 = .ok (.ifCond .ne 5, 3) := by decide +kernel
theorem dX5_piano_10 : decode cX5_piano 10 = .ok (.iconst (-1), 1) := by decide +kernel
theorem dX5_piano_11 : decode cX5_piano 11 = .ok (.ireturn, 1) := by decide +kernel
theorem dX5_piano_12 : decode cX5_piano 12 = .ok (.aload_n 0, 1) := by decide +kernel
theorem dX5_piano_13 : decode cX5_piano 13 = .ok (.aload_n 0, 1) := by decide +kernel
theorem dX5_piano_14 : decode cX5_piano 14 = .ok (.getfield 26, 3) := by decide +kernel
theorem dX5_piano_17 : decode cX5_piano 17 = .ok (.iconst 0, 1) := by decide +kernel
theorem dX5_piano_18 : decode cX5_piano 18 = .ok (.iaload, 1) := by decide +kernel
theorem dX5_piano_19 : decode cX5_piano 19 = .ok (.invokevirtual 168, 3) := by decide +kernel
theorem dX5_piano_22 : decode cX5_piano 22 = .ok (.iconst 0, 1) := by decide +kernel
theorem dX5_piano_23 : decode cX5_piano 23 = .ok (.istore_n 2, 1) := by decide +kernel
theorem dX5_piano_24 : decode cX5_piano 24 = .ok (.iload_n 2, 1) := by decide +kernel
theorem dX5_piano_25 : decode cX5_piano 25 = .ok (.aload_n 0, 1) := by decide +kernel
theorem dX5_piano_26 : decode cX5_piano 26 = .ok (.getfield 152, 3) := by decide +kernel
theorem dX5_piano_29 : decode cX5_piano 29 = .ok (.if_icmp .ge 50, 3) := by decide +kernel
theorem dX5_piano_32 : decode cX5_piano 32 = .ok (.aload_n 0, 1) := by decide +kernel
theorem dX5_piano_33 : decode cX5_piano 33 = .ok (.getfield 36, 3) := by decide +kernel
theorem dX5_piano_36 : decode cX5_piano 36 = .ok (.iload_n 2, 1) := by decide +kernel
theorem dX5_piano_37 : decode cX5_piano 37 = .ok (.iaload, 1) := by decide +kernel
theorem dX5_piano_38 : decode cX5_piano 38 = .ok (.istore_n 3, 1) := by decide +kernel
theorem dX5_piano_39 : decode cX5_piano 39 = .ok (.aload_n 0, 1) := by decide +kernel
theorem dX5_piano_40 : decode cX5_piano 40 = .ok (.iload_n 3, 1) := by decide +kernel
theorem dX5_piano_41 : decode cX5_piano 41 = .ok (.iload_n 1, 1) := by decide +kernel
theorem dX5_piano_42 : decode cX5_piano 42 = .ok (.invokevirtual 120, 3) := by decide +kernel
theorem dX5_piano_45 : decode cX5_piano 45 = .ok (.bipush (-9), 2) := by decide +kernel
theorem dX5_piano_47 : decode cX5_piano 47 = .ok (.if_icmp .ne 26, 3) := by decide +kernel
theorem dX5_piano_50 : decode cX5_piano 50 = .ok (.aload_n 0, 1) := by decide +kernel
theorem dX5_piano_51 : decode cX5_piano 51 = .ok (.iload_n 3, 1) := by decide +kernel
theorem dX5_piano_52 : decode cX5_piano 52 = .ok (.iload_n 1, 1) := by decide +kernel
theorem dX5_piano_53 : decode cX5_piano 53 = .ok (.iconst 1, 1) := by decide +kernel
theorem dX5_piano_54 : decode cX5_piano 54 = .ok (.iadd, 1) := by decide +kernel
theorem dX5_piano_55 : decode cX5_piano 55 = .ok (.bipush 8, 2) := by decide +kernel
theorem dX5_piano_57 : decode cX5_piano 57 = .ok (.irem, 1) := by decide +kernel
theorem dX5_piano_58 : decode cX5_piano 58 = .ok (.invokevirtual 120, 3) := by decide +kernel
theorem dX5_piano_61 : decode cX5_piano 61 = .ok (.bipush (-9), 2) := by decide +kernel
theorem dX5_piano_63 : decode cX5_piano 63 = .ok (.if_icmp .ne 10, 3) := by decide +kernel
theorem dX5_piano_66 : decode cX5_piano 66 = .ok (.aload_n 0, 1) := by decide +kernel
theorem dX5_piano_67 : decode cX5_piano 67 = .ok (.getfield 33, 3) := by decide +kernel
theorem dX5_piano_70 : decode cX5_piano 70 = .ok (.iload_n 3, 1) := by decide +kernel
theorem dX5_piano_71 : decode cX5_piano 71 = .ok (.iaload, 1) := by decide +kernel
theorem dX5_piano_72 : decode cX5_piano 72 = .ok (.ireturn, 1) := by decide +kernel
theorem dX5_piano_73 : decode cX5_piano 73 = .ok (.iinc 2 1, 3) := by decide +kernel
theorem dX5_piano_76 : decode cX5_piano 76 = .ok (.goto (-52), 3) := by decide +kernel
theorem dX5_piano_79 : decode cX5_piano 79 = .ok (.bipush (-9), 2) := by decide +kernel
theorem dX5_piano_81 : decode cX5_piano 81 = .ok (.ireturn, 1) := by decide +kernel
set_option maxRecDepth 20000 in
theorem ggX5_best_X5_in : GoodIn wsX5_best wsX5_in := goodIn_r _ [6] (by decide +kernel) (by decide +kernel)
set_option maxRecDepth 20000 in
theorem gX5_best_X5_in : GoodIn wsX5_best (va_wsS RX5 46 yX5_in wsX5_in) := goodIn_app (goodIn_of _ (by decide +kernel)) ggX5_best_X5_in
set_option maxRecDepth 20000 in
theorem ggX5_best_X5_houses : GoodIn wsX5_best wsX5_houses := goodIn_r _ [10, 1, 11, 12, 5, 13, 56, 57, 58, 59, 60, 61, 62, 63, 64, 65, 66, 67, 68, 69, 70, 71, 72, 73, 74] (by decide +kernel) (by decide +kernel)
set_option maxRecDepth 20000 in
theorem gX5_best_X5_houses : GoodIn wsX5_best (wsV RX5 174 RX5 yX5_houses wsX5_houses) := goodIn_app (goodIn_of _ (by decide +kernel)) ggX5_best_X5_houses
set_option maxRecDepth 20000 in
theorem ggX5_best_X5_isLawful : GoodIn wsX5_best wsX5_isLawful := goodIn_r _ [17, 1, 18, 19, 20, 5, 21, 22, 23, 24, 25, 11, 12, 13, 26, 27, 28, 29, 30, 31, 56, 57, 58, 59, 60, 61, 62, 63, 64, 65, 66, 67, 68, 69, 70, 71, 72, 73, 74] (by decide +kernel) (by decide +kernel)
set_option maxRecDepth 20000 in
theorem gX5_best_X5_isLawful : GoodIn wsX5_best (wsV RX5 138 RX5 yX5_isLawful wsX5_isLawful) := goodIn_app (goodIn_of _ (by decide +kernel)) ggX5_best_X5_isLawful
set_option maxRecDepth 20000 in
theorem ggX5_best_X5_worthOf : GoodIn wsX5_best wsX5_worthOf := goodIn_r _ [35, 1, 36, 37, 38, 5, 39, 40, 41, 42, 43, 30, 44, 45, 46, 47, 22, 23, 24, 25, 11, 12, 13, 3, 4, 6, 48, 49, 50, 51, 52, 53, 54, 55, 56, 57, 58, 59, 60, 61, 62, 63, 64, 65, 66, 67, 68, 69, 70, 71, 72, 73, 74] (by decide +kernel) (by decide +kernel)
set_option maxRecDepth 20000 in
theorem gX5_best_X5_worthOf : GoodIn wsX5_best (wsV RX5 148 RX5 yX5_worthOf wsX5_worthOf) := goodIn_app (goodIn_of _ (by decide +kernel)) ggX5_best_X5_worthOf
set_option maxRecDepth 20000 in
theorem ggX5_best_X5_slotIn : GoodIn wsX5_best wsX5_slotIn := goodIn_r _ [25, 1, 11, 12, 5, 13, 56, 57, 58, 59, 60, 61, 62, 63, 64, 65, 66, 67, 68, 69, 70, 71, 72, 73, 74] (by decide +kernel) (by decide +kernel)
set_option maxRecDepth 20000 in
theorem gX5_best_X5_slotIn : GoodIn wsX5_best (wsV RX5 110 RX5 yX5_slotIn wsX5_slotIn) := goodIn_app (goodIn_of _ (by decide +kernel)) ggX5_best_X5_slotIn
theorem dX5_best_0 : decode cX5_best 0 = .ok (.iload_n 1, 1) := by decide +kernel
theorem dX5_best_1 : decode cX5_best 1 = .ok (.iconst (-1), 1) := by decide +kernel
theorem dX5_best_2 : decode cX5_best 2 = .ok (.aload_n 0, 1) := by decide +kernel
theorem dX5_best_3 : decode cX5_best 3 = .ok (.getfield 13, 3) := by decide +kernel
theorem dX5_best_6 : decode cX5_best 6 = .ok (.iconst 0, 1) := by decide +kernel
theorem dX5_best_7 : decode cX5_best 7 = .ok (.iaload, 1) := by decide +kernel
theorem dX5_best_8 : decode cX5_best 8 = .ok (.iconst 1, 1) := by decide +kernel
theorem dX5_best_9 : decode cX5_best 9 = .ok (.isub, 1) := by decide +kernel
theorem dX5_best_10 : decode cX5_best 10 = .ok (.invokestatic 46, 3) := by decide +kernel
theorem dX5_best_13 : decode cX5_best 13 = .ok (.ifCond .ne 6, 3) := by decide +kernel
theorem dX5_best_16 : decode cX5_best 16 = .ok (.ldc 151, 2) := by decide +kernel
theorem dX5_best_18 : decode cX5_best 18 = .ok (.ireturn, 1) := by decide +kernel
theorem dX5_best_19 : decode cX5_best 19 = .ok (.bipush (-9), 2) := by decide +kernel
theorem dX5_best_21 : decode cX5_best 21 = .ok (.istore_n 2, 1) := by decide +kernel
theorem dX5_best_22 : decode cX5_best 22 = .ok (.ldc 151, 2) := by decide +kernel
theorem dX5_best_24 : decode cX5_best 24 = .ok (.istore_n 3, 1) := by decide +kernel
theorem dX5_best_25 : decode cX5_best 25 = .ok (.iconst 0, 1) := by decide +kernel
theorem dX5_best_26 : decode cX5_best 26 = .ok (.istore 4, 2) := by decide +kernel
theorem dX5_best_28 : decode cX5_best 28 = .ok (.iload 4, 2) := by decide +kernel
theorem dX5_best_30 : decode cX5_best 30 = .ok (.aload_n 0, 1) := by decide +kernel
theorem dX5_best_31 : decode cX5_best 31 = .ok (.invokevirtual 174, 3) := by decide +kernel
theorem dX5_best_34 : decode cX5_best 34 = .ok (.if_icmp .ge 38, 3) := by decide +kernel
theorem dX5_best_37 : decode cX5_best 37 = .ok (.aload_n 0, 1) := by decide +kernel
theorem dX5_best_38 : decode cX5_best 38 = .ok (.iload 4, 2) := by decide +kernel
theorem dX5_best_40 : decode cX5_best 40 = .ok (.invokevirtual 138, 3) := by decide +kernel
theorem dX5_best_43 : decode cX5_best 43 = .ok (.ifCond .eq 23, 3) := by decide +kernel
theorem dX5_best_46 : decode cX5_best 46 = .ok (.aload_n 0, 1) := by decide +kernel
theorem dX5_best_47 : decode cX5_best 47 = .ok (.iload 4, 2) := by decide +kernel
theorem dX5_best_49 : decode cX5_best 49 = .ok (.invokevirtual 148, 3) := by decide +kernel
theorem dX5_best_52 : decode cX5_best 52 = .ok (.iload_n 3, 1) := by decide +kernel
theorem dX5_best_53 : decode cX5_best 53 = .ok (.if_icmp .le 13, 3) := by decide +kernel
theorem dX5_best_56 : decode cX5_best 56 = .ok (.iload 4, 2) := by decide +kernel
theorem dX5_best_58 : decode cX5_best 58 = .ok (.istore_n 2, 1) := by decide +kernel
theorem dX5_best_59 : decode cX5_best 59 = .ok (.aload_n 0, 1) := by decide +kernel
theorem dX5_best_60 : decode cX5_best 60 = .ok (.iload 4, 2) := by decide +kernel
theorem dX5_best_62 : decode cX5_best 62 = .ok (.invokevirtual 148, 3) := by decide +kernel
theorem dX5_best_65 : decode cX5_best 65 = .ok (.istore_n 3, 1) := by decide +kernel
theorem dX5_best_66 : decode cX5_best 66 = .ok (.iinc 4 1, 3) := by decide +kernel
theorem dX5_best_69 : decode cX5_best 69 = .ok (.goto (-41), 3) := by decide +kernel
theorem dX5_best_72 : decode cX5_best 72 = .ok (.iload_n 2, 1) := by decide +kernel
theorem dX5_best_73 : decode cX5_best 73 = .ok (.bipush (-9), 2) := by decide +kernel
theorem dX5_best_75 : decode cX5_best 75 = .ok (.if_icmp .eq 8, 3) := by decide +kernel
theorem dX5_best_78 : decode cX5_best 78 = .ok (.iload_n 1, 1) := by decide +kernel
theorem dX5_best_79 : decode cX5_best 79 = .ok (.iconst (-1), 1) := by decide +kernel
theorem dX5_best_80 : decode cX5_best 80 = .ok (.if_icmp .ne 7, 3) := by decide +kernel
theorem dX5_best_83 : decode cX5_best 83 = .ok (.iload_n 3, 1) := by decide +kernel
theorem dX5_best_84 : decode cX5_best 84 = .ok (.goto 9, 3) := by decide +kernel
theorem dX5_best_87 : decode cX5_best 87 = .ok (.aload_n 0, 1) := by decide +kernel
theorem dX5_best_88 : decode cX5_best 88 = .ok (.iload_n 2, 1) := by decide +kernel
theorem dX5_best_89 : decode cX5_best 89 = .ok (.iload_n 1, 1) := by decide +kernel
theorem dX5_best_90 : decode cX5_best 90 = .ok (.invokevirtual 110, 3) := by decide +kernel
theorem dX5_best_93 : decode cX5_best 93 = .ok (.ireturn, 1) := by decide +kernel
set_option maxRecDepth 20000 in
theorem ggX5_clue_X5_in : GoodIn wsX5_clue wsX5_in := goodIn_r _ [5] (by decide +kernel) (by decide +kernel)
set_option maxRecDepth 20000 in
theorem gX5_clue_X5_in : GoodIn wsX5_clue (va_wsS RX5 46 yX5_in wsX5_in) := goodIn_app (goodIn_of _ (by decide +kernel)) ggX5_clue_X5_in
theorem dX5_clue_0 : decode cX5_clue 0 = .ok (.iload_n 1, 1) := by decide +kernel
theorem dX5_clue_1 : decode cX5_clue 1 = .ok (.iconst 0, 1) := by decide +kernel
theorem dX5_clue_2 : decode cX5_clue 2 = .ok (.bipush 7, 2) := by decide +kernel
theorem dX5_clue_4 : decode cX5_clue 4 = .ok (.invokestatic 46, 3) := by decide +kernel
theorem dX5_clue_7 : decode cX5_clue 7 = .ok (.ifCond .eq 12, 3) := by decide +kernel
theorem dX5_clue_10 : decode cX5_clue 10 = .ok (.iload_n 2, 1) := by decide +kernel
theorem dX5_clue_11 : decode cX5_clue 11 = .ok (.iconst 0, 1) := by decide +kernel
theorem dX5_clue_12 : decode cX5_clue 12 = .ok (.iconst 1, 1) := by decide +kernel
theorem dX5_clue_13 : decode cX5_clue 13 = .ok (.invokestatic 46, 3) := by decide +kernel
theorem dX5_clue_16 : decode cX5_clue 16 = .ok (.ifCond .ne 5, 3) := by decide +kernel
theorem dX5_clue_19 : decode cX5_clue 19 = .ok (.iconst (-1), 1) := by decide +kernel
theorem dX5_clue_20 : decode cX5_clue 20 = .ok (.ireturn, 1) := by decide +kernel
theorem dX5_clue_21 : decode cX5_clue 21 = .ok (.aload_n 0, 1) := by decide +kernel
theorem dX5_clue_22 : decode cX5_clue 22 = .ok (.getfield 26, 3) := by decide +kernel
theorem dX5_clue_25 : decode cX5_clue 25 = .ok (.iconst 4, 1) := by decide +kernel
theorem dX5_clue_26 : decode cX5_clue 26 = .ok (.iaload, 1) := by decide +kernel
theorem dX5_clue_27 : decode cX5_clue 27 = .ok (.bipush 8, 2) := by decide +kernel
theorem dX5_clue_29 : decode cX5_clue 29 = .ok (.if_icmp .ne 6, 3) := by decide +kernel
theorem dX5_clue_32 : decode cX5_clue 32 = .ok (.bipush (-3), 2) := by decide +kernel
theorem dX5_clue_34 : decode cX5_clue 34 = .ok (.ireturn, 1) := by decide +kernel
theorem dX5_clue_35 : decode cX5_clue 35 = .ok (.aload_n 0, 1) := by decide +kernel
theorem dX5_clue_36 : decode cX5_clue 36 = .ok (.getfield 26, 3) := by decide +kernel
theorem dX5_clue_39 : decode cX5_clue 39 = .ok (.iconst 5, 1) := by decide +kernel
theorem dX5_clue_40 : decode cX5_clue 40 = .ok (.iconst 2, 1) := by decide +kernel
theorem dX5_clue_41 : decode cX5_clue 41 = .ok (.aload_n 0, 1) := by decide +kernel
theorem dX5_clue_42 : decode cX5_clue 42 = .ok (.getfield 26, 3) := by decide +kernel
theorem dX5_clue_45 : decode cX5_clue 45 = .ok (.iconst 4, 1) := by decide +kernel
theorem dX5_clue_46 : decode cX5_clue 46 = .ok (.iaload, 1) := by decide +kernel
theorem dX5_clue_47 : decode cX5_clue 47 = .ok (.imul, 1) := by decide +kernel
theorem dX5_clue_48 : decode cX5_clue 48 = .ok (.iadd, 1) := by decide +kernel
theorem dX5_clue_49 : decode cX5_clue 49 = .ok (.iload_n 1, 1) := by decide +kernel
theorem dX5_clue_50 : decode cX5_clue 50 = .ok (.iastore, 1) := by decide +kernel
theorem dX5_clue_51 : decode cX5_clue 51 = .ok (.aload_n 0, 1) := by decide +kernel
theorem dX5_clue_52 : decode cX5_clue 52 = .ok (.getfield 26, 3) := by decide +kernel
theorem dX5_clue_55 : decode cX5_clue 55 = .ok (.iconst 5, 1) := by decide +kernel
theorem dX5_clue_56 : decode cX5_clue 56 = .ok (.iconst 2, 1) := by decide +kernel
theorem dX5_clue_57 : decode cX5_clue 57 = .ok (.aload_n 0, 1) := by decide +kernel
theorem dX5_clue_58 : decode cX5_clue 58 = .ok (.getfield 26, 3) := by decide +kernel
theorem dX5_clue_61 : decode cX5_clue 61 = .ok (.iconst 4, 1) := by decide +kernel
theorem dX5_clue_62 : decode cX5_clue 62 = .ok (.iaload, 1) := by decide +kernel
theorem dX5_clue_63 : decode cX5_clue 63 = .ok (.imul, 1) := by decide +kernel
theorem dX5_clue_64 : decode cX5_clue 64 = .ok (.iadd, 1) := by decide +kernel
theorem dX5_clue_65 : decode cX5_clue 65 = .ok (.iconst 1, 1) := by decide +kernel
theorem dX5_clue_66 : decode cX5_clue 66 = .ok (.iadd, 1) := by decide +kernel
theorem dX5_clue_67 : decode cX5_clue 67 = .ok (.iload_n 2, 1) := by decide +kernel
theorem dX5_clue_68 : decode cX5_clue 68 = .ok (.iastore, 1) := by decide +kernel
theorem dX5_clue_69 : decode cX5_clue 69 = .ok (.aload_n 0, 1) := by decide +kernel
theorem dX5_clue_70 : decode cX5_clue 70 = .ok (.getfield 26, 3) := by decide +kernel
theorem dX5_clue_73 : decode cX5_clue 73 = .ok (.iconst 4, 1) := by decide +kernel
theorem dX5_clue_74 : decode cX5_clue 74 = .ok (.dup2, 1) := by decide +kernel
theorem dX5_clue_75 : decode cX5_clue 75 = .ok (.iaload, 1) := by decide +kernel
theorem dX5_clue_76 : decode cX5_clue 76 = .ok (.iconst 1, 1) := by decide +kernel
theorem dX5_clue_77 : decode cX5_clue 77 = .ok (.iadd, 1) := by decide +kernel
theorem dX5_clue_78 : decode cX5_clue 78 = .ok (.iastore, 1) := by decide +kernel
theorem dX5_clue_79 : decode cX5_clue 79 = .ok (.aload_n 0, 1) := by decide +kernel
theorem dX5_clue_80 : decode cX5_clue 80 = .ok (.getfield 26, 3) := by decide +kernel
theorem dX5_clue_83 : decode cX5_clue 83 = .ok (.iconst 4, 1) := by decide +kernel
theorem dX5_clue_84 : decode cX5_clue 84 = .ok (.iaload, 1) := by decide +kernel
theorem dX5_clue_85 : decode cX5_clue 85 = .ok (.ireturn, 1) := by decide +kernel
set_option maxRecDepth 20000 in
theorem ggX5_isFit_X5_isLawful : GoodIn wsX5_isFit wsX5_isLawful := goodIn_r _ [6, 7, 8, 9, 10, 5, 11, 12, 13, 14, 15, 16, 17, 18, 19, 20, 21, 22, 23, 24, 41, 42, 43, 44, 45, 46, 47, 48, 49, 50, 51, 52, 53, 54, 55, 56, 57, 58, 59] (by decide +kernel) (by decide +kernel)
set_option maxRecDepth 20000 in
theorem gX5_isFit_X5_isLawful : GoodIn wsX5_isFit (wsV RX5 138 RX5 yX5_isLawful wsX5_isLawful) := goodIn_app (goodIn_of _ (by decide +kernel)) ggX5_isFit_X5_isLawful
set_option maxRecDepth 20000 in
theorem ggX5_isFit_X5_isLit : GoodIn wsX5_isFit wsX5_isLit := goodIn_r _ [28, 7, 29, 30, 31, 5, 32, 33, 34, 35, 36, 23, 37, 38, 39, 40, 12, 13, 14, 15, 16, 17, 18, 41, 42, 43, 44, 45, 46, 47, 48, 49, 50, 51, 52, 53, 54, 55, 56, 57, 58, 59] (by decide +kernel) (by decide +kernel)
set_option maxRecDepth 20000 in
theorem gX5_isFit_X5_isLit : GoodIn wsX5_isFit (wsV RX5 132 RX5 yX5_isLit wsX5_isLit) := goodIn_app (goodIn_of _ (by decide +kernel)) ggX5_isFit_X5_isLit
theorem dX5_isFit_0 : decode cX5_isFit 0 = .ok (.aload_n 0, 1) := by decide +kernel
theorem dX5_isFit_1 : decode cX5_isFit 1 = .ok (.iload_n 1, 1) := by decide +kernel
theorem dX5_isFit_2 : decode cX5_isFit 2 = .ok (.invokevirtual 138, 3) := by decide +kernel
theorem dX5_isFit_5 : decode cX5_isFit 5 = .ok (.istore_n 2, 1) := by decide +kernel
theorem dX5_isFit_6 : decode cX5_isFit 6 = .ok (.iconst 0, 1) := by decide +kernel
theorem dX5_isFit_7 : decode cX5_isFit 7 = .ok (.istore_n 3, 1) := by decide +kernel
theorem dX5_isFit_8 : decode cX5_isFit 8 = .ok (.iload_n 3, 1) := by decide +kernel
theorem dX5_isFit_9 : decode cX5_isFit 9 = .ok (.aload_n 0, 1) := by decide +kernel
theorem dX5_isFit_10 : decode cX5_isFit 10 = .ok (.getfield 26, 3) := by decide +kernel
theorem dX5_isFit_13 : decode cX5_isFit 13 = .ok (.iconst 4, 1) := by decide +kernel
theorem dX5_isFit_14 : decode cX5_isFit 14 = .ok (.iaload, 1) := by decide +kernel
theorem dX5_isFit_15 : decode cX5_isFit 15 = .ok (.if_icmp .ge 58, 3) := by decide +kernel
theorem dX5_isFit_18 : decode cX5_isFit 18 = .ok (.iload_n 2, 1) := by decide +kernel
theorem dX5_isFit_19 : decode cX5_isFit 19 = .ok (.ifCond .eq 54, 3) := by decide +kernel
theorem dX5_isFit_22 : decode cX5_isFit 22 = .ok (.aload_n 0, 1) := by decide +kernel
theorem dX5_isFit_23 : decode cX5_isFit 23 = .ok (.iload_n 1, 1) := by decide +kernel
theorem dX5_isFit_24 : decode cX5_isFit 24 = .ok (.aload_n 0, 1) := by decide +kernel
theorem dX5_isFit_25 : decode cX5_isFit 25 = .ok (.getfield 26, 3) := by decide +kernel
theorem dX5_isFit_28 : decode cX5_isFit 28 = .ok (.iconst 5, 1) := by decide +kernel
theorem dX5_isFit_29 : decode cX5_isFit 29 = .ok (.iconst 2, 1) := by decide +kernel
theorem dX5_isFit_30 : decode cX5_isFit 30 = .ok (.iload_n 3, 1) := by decide +kernel
theorem dX5_isFit_31 : decode cX5_isFit 31 = .ok (.imul, 1) := by decide +kernel
theorem dX5_isFit_32 : decode cX5_isFit 32 = .ok (.iadd, 1) := by decide +kernel
theorem dX5_isFit_33 : decode cX5_isFit 33 = .ok (.iaload, 1) := by decide +kernel
theorem dX5_isFit_34 : decode cX5_isFit 34 = .ok (.invokevirtual 132, 3) := by decide +kernel
theorem dX5_isFit_37 : decode cX5_isFit 37 = .ok (.aload_n 0, 1) := by decide +kernel
theorem dX5_isFit_38 : decode cX5_isFit 38 = .ok (.getfield 26, 3) := by decide +kernel
theorem dX5_isFit_41 : decode cX5_isFit 41 = .ok (.iconst 5, 1) := by decide +kernel
theorem dX5_isFit_42 : decode cX5_isFit 42 = .ok (.iconst 2, 1) := by decide +kernel
theorem dX5_isFit_43 : decode cX5_isFit 43 = .ok (.iload_n 3, 1) := by decide +kernel
theorem dX5_isFit_44 : decode cX5_isFit 44 = .ok (.imul, 1) := by decide +kernel
theorem dX5_isFit_45 : decode cX5_isFit 45 = .ok (.iadd, 1) := by decide +kernel
theorem dX5_isFit_46 : decode cX5_isFit 46 = .ok (.iconst 1, 1) := by decide +kernel
theorem dX5_isFit_47 : decode cX5_isFit 47 = .ok (.iadd, 1) := by decide +kernel
theorem dX5_isFit_48 : decode cX5_isFit 48 = .ok (.iaload, 1) := by decide +kernel
theorem dX5_isFit_49 : decode cX5_isFit 49 = .ok (.iconst 1, 1) := by decide +kernel
theorem dX5_isFit_50 : decode cX5_isFit 50 = .ok (.if_icmp .ne 7, 3) := by decide +kernel
theorem dX5_isFit_53 : decode cX5_isFit 53 = .ok (.iconst 1, 1) := by decide +kernel
theorem dX5_isFit_54 : decode cX5_isFit 54 = .ok (.goto 4, 3) := by decide +kernel
theorem dX5_isFit_57 : decode cX5_isFit 57 = .ok (.iconst 0, 1) := by decide +kernel
theorem dX5_isFit_58 : decode cX5_isFit 58 = .ok (.if_icmp .ne 7, 3) := by decide +kernel
theorem dX5_isFit_61 : decode cX5_isFit 61 = .ok (.iconst 1, 1) := by decide +kernel
theorem dX5_isFit_62 : decode cX5_isFit 62 = .ok (.goto 4, 3) := by decide +kernel
theorem dX5_isFit_65 : decode cX5_isFit 65 = .ok (.iconst 0, 1) := by decide +kernel
theorem dX5_isFit_66 : decode cX5_isFit 66 = .ok (.istore_n 2, 1) := by decide +kernel
theorem dX5_isFit_67 : decode cX5_isFit 67 = .ok (.iinc 3 1, 3) := by decide +kernel
theorem dX5_isFit_70 : decode cX5_isFit 70 = .ok (.goto (-62), 3) := by decide +kernel
theorem dX5_isFit_73 : decode cX5_isFit 73 = .ok (.iload_n 2, 1) := by decide +kernel
theorem dX5_isFit_74 : decode cX5_isFit 74 = .ok (.ireturn, 1) := by decide +kernel
set_option maxRecDepth 20000 in
theorem ggX5_fit_X5_houses : GoodIn wsX5_fit wsX5_houses := goodIn_r _ [5, 6, 7, 8, 4, 9, 49, 50, 51, 52, 53, 54, 55, 56, 57, 58, 59, 60, 61, 62, 63, 64, 65, 66, 67] (by decide +kernel) (by decide +kernel)
set_option maxRecDepth 20000 in
theorem gX5_fit_X5_houses : GoodIn wsX5_fit (wsV RX5 174 RX5 yX5_houses wsX5_houses) := goodIn_app (goodIn_of _ (by decide +kernel)) ggX5_fit_X5_houses
set_option maxRecDepth 20000 in
theorem ggX5_fit_X5_isFit : GoodIn wsX5_fit wsX5_isFit := goodIn_r _ [13, 14, 15, 16, 17, 4, 18, 6, 19, 20, 21, 22, 23, 24, 25, 26, 7, 8, 9, 27, 28, 29, 30, 31, 32, 33, 34, 35, 36, 37, 38, 39, 40, 41, 42, 43, 44, 45, 46, 47, 48, 49, 50, 51, 52, 53, 54, 55, 56, 57, 58, 59, 60, 61, 62, 63, 64, 65, 66, 67] (by decide +kernel) (by decide +kernel)
set_option maxRecDepth 20000 in
theorem gX5_fit_X5_isFit : GoodIn wsX5_fit (wsV RX5 177 RX5 yX5_isFit wsX5_isFit) := goodIn_app (goodIn_of _ (by decide +kernel)) ggX5_fit_X5_isFit
theorem dX5_fit_0 : decode cX5_fit 0 = .ok (.iconst 0, 1) := by decide +kernel
theorem dX5_fit_1 : decode cX5_fit 1 = .ok (.istore_n 1, 1) := by decide +kernel
theorem dX5_fit_2 : decode cX5_fit 2 = .ok (.iconst 0, 1) := by decide +kernel
theorem dX5_fit_3 : decode cX5_fit 3 = .ok (.istore_n 2, 1) := by decide +kernel
theorem dX5_fit_4 : decode cX5_fit 4 = .ok (.iload_n 2, 1) := by decide +kernel
theorem dX5_fit_5 : decode cX5_fit 5 = .ok (.aload_n 0, 1) := by decide +kernel
theorem dX5_fit_6 : decode cX5_fit 6 = .ok (.invokevirtual 174, 3) := by decide +kernel
theorem dX5_fit_9 : decode cX5_fit 9 = .ok (.if_icmp .ge 25, 3) := by decide +kernel
theorem dX5_fit_12 : decode cX5_fit 12 = .ok (.iload_n 1, 1) := by decide +kernel
theorem dX5_fit_13 : decode cX5_fit 13 = .ok (.aload_n 0, 1) := by decide +kernel
theorem dX5_fit_14 : decode cX5_fit 14 = .ok (.iload_n 2, 1) := by decide +kernel
theorem dX5_fit_15 : decode cX5_fit 15 = .ok (.invokevirtual 177, 3) := by decide +kernel
theorem dX5_fit_18 : decode cX5_fit 18 = .ok (.ifCond .eq 7, 3) := by decide +kernel
theorem dX5_fit_21 : decode cX5_fit 21 = .ok (.iconst 1, 1) := by decide +kernel
theorem dX5_fit_22 : decode cX5_fit 22 = .ok (.goto 4, 3) := by decide +kernel
theorem dX5_fit_25 : decode cX5_fit 25 = .ok (.iconst 0, 1) := by decide +kernel
theorem dX5_fit_26 : decode cX5_fit 26 = .ok (.iadd, 1) := by decide +kernel
theorem dX5_fit_27 : decode cX5_fit 27 = .ok (.istore_n 1, 1) := by decide +kernel
theorem dX5_fit_28 : decode cX5_fit 28 = .ok (.iinc 2 1, 3) := by decide +kernel
theorem dX5_fit_31 : decode cX5_fit 31 = .ok (.goto (-27), 3) := by decide +kernel
theorem dX5_fit_34 : decode cX5_fit 34 = .ok (.iload_n 1, 1) := by decide +kernel
theorem dX5_fit_35 : decode cX5_fit 35 = .ok (.ireturn, 1) := by decide +kernel
set_option maxRecDepth 20000 in
theorem ggX5_sure_X5_isPanel : GoodIn wsX5_sure wsX5_isPanel := goodIn_r _ [5, 6, 7, 8, 4, 9, 56, 57, 58, 59, 60, 61, 62, 63, 64, 65, 66, 67, 68, 69, 70, 71, 72, 73, 74] (by decide +kernel) (by decide +kernel)
set_option maxRecDepth 20000 in
theorem gX5_sure_X5_isPanel : GoodIn wsX5_sure (wsV RX5 135 RX5 yX5_isPanel wsX5_isPanel) := goodIn_app (goodIn_of _ (by decide +kernel)) ggX5_sure_X5_isPanel
set_option maxRecDepth 20000 in
theorem ggX5_sure_X5_houses : GoodIn wsX5_sure wsX5_houses := goodIn_r _ [13, 6, 14, 15, 4, 16, 56, 57, 58, 59, 60, 61, 62, 63, 64, 65, 66, 67, 68, 69, 70, 71, 72, 73, 74] (by decide +kernel) (by decide +kernel)
set_option maxRecDepth 20000 in
theorem gX5_sure_X5_houses : GoodIn wsX5_sure (wsV RX5 174 RX5 yX5_houses wsX5_houses) := goodIn_app (goodIn_of _ (by decide +kernel)) ggX5_sure_X5_houses
set_option maxRecDepth 20000 in
theorem ggX5_sure_X5_isFit : GoodIn wsX5_sure wsX5_isFit := goodIn_r _ [20, 21, 22, 23, 24, 4, 25, 6, 26, 27, 28, 29, 30, 31, 32, 33, 14, 15, 16, 34, 35, 36, 37, 38, 39, 40, 41, 42, 43, 44, 45, 46, 47, 48, 49, 50, 51, 52, 53, 54, 55, 56, 57, 58, 59, 60, 61, 62, 63, 64, 65, 66, 67, 68, 69, 70, 71, 72, 73, 74] (by decide +kernel) (by decide +kernel)
set_option maxRecDepth 20000 in
theorem gX5_sure_X5_isFit : GoodIn wsX5_sure (wsV RX5 177 RX5 yX5_isFit wsX5_isFit) := goodIn_app (goodIn_of _ (by decide +kernel)) ggX5_sure_X5_isFit
set_option maxRecDepth 20000 in
theorem ggX5_sure_X5_slotIn : GoodIn wsX5_sure wsX5_slotIn := goodIn_r _ [33, 6, 14, 15, 4, 16, 56, 57, 58, 59, 60, 61, 62, 63, 64, 65, 66, 67, 68, 69, 70, 71, 72, 73, 74] (by decide +kernel) (by decide +kernel)
set_option maxRecDepth 20000 in
theorem gX5_sure_X5_slotIn : GoodIn wsX5_sure (wsV RX5 110 RX5 yX5_slotIn wsX5_slotIn) := goodIn_app (goodIn_of _ (by decide +kernel)) ggX5_sure_X5_slotIn
theorem dX5_sure_0 : decode cX5_sure 0 = .ok (.aload_n 0, 1) := by decide +kernel
theorem dX5_sure_1 : decode cX5_sure 1 = .ok (.iload_n 1, 1) := by decide +kernel
theorem dX5_sure_2 : decode cX5_sure 2 = .ok (.invokevirtual 135, 3) := by decide +kernel
theorem dX5_sure_5 : decode cX5_sure 5 = .ok (.ifCond .ne 5, 3) := by decide +kernel
theorem dX5_sure_8 : decode cX5_sure 8 = .ok (.iconst (-1), 1) := by decide +kernel
theorem dX5_sure_9 : decode cX5_sure 9 = .ok (.ireturn, 1) := by decide +kernel
theorem dX5_sure_10 : decode cX5_sure 10 = .ok (.iconst 0, 1) := by decide +kernel
theorem dX5_sure_11 : decode cX5_sure 11 = .ok (.istore_n 2, 1) := by decide +kernel
theorem dX5_sure_12 : decode cX5_sure 12 = .ok (.iconst 0, 1) := by decide +kernel
theorem dX5_sure_13 : decode cX5_sure 13 = .ok (.istore_n 3, 1) := by decide +kernel
theorem dX5_sure_14 : decode cX5_sure 14 = .ok (.iload_n 3, 1) := by decide +kernel
theorem dX5_sure_15 : decode cX5_sure 15 = .ok (.aload_n 0, 1) := by decide +kernel
theorem dX5_sure_16 : decode cX5_sure 16 = .ok (.invokevirtual 174, 3) := by decide +kernel
theorem dX5_sure_19 : decode cX5_sure 19 = .ok (.if_icmp .ge 32, 3) := by decide +kernel
theorem dX5_sure_22 : decode cX5_sure 22 = .ok (.iload_n 2, 1) := by decide +kernel
theorem dX5_sure_23 : decode cX5_sure 23 = .ok (.aload_n 0, 1) := by decide +kernel
theorem dX5_sure_24 : decode cX5_sure 24 = .ok (.iload_n 3, 1) := by decide +kernel
theorem dX5_sure_25 : decode cX5_sure 25 = .ok (.invokevirtual 177, 3) := by decide +kernel
theorem dX5_sure_28 : decode cX5_sure 28 = .ok (.ifCond .eq 14, 3) := by decide +kernel
theorem dX5_sure_31 : decode cX5_sure 31 = .ok (.iconst 1, 1) := by decide +kernel
theorem dX5_sure_32 : decode cX5_sure 32 = .ok (.aload_n 0, 1) := by decide +kernel
theorem dX5_sure_33 : decode cX5_sure 33 = .ok (.iload_n 3, 1) := by decide +kernel
theorem dX5_sure_34 : decode cX5_sure 34 = .ok (.iload_n 1, 1) := by decide +kernel
theorem dX5_sure_35 : decode cX5_sure 35 = .ok (.invokevirtual 110, 3) := by decide +kernel
theorem dX5_sure_38 : decode cX5_sure 38 = .ok (.ishl, 1) := by decide +kernel
theorem dX5_sure_39 : decode cX5_sure 39 = .ok (.goto 4, 3) := by decide +kernel
theorem dX5_sure_42 : decode cX5_sure 42 = .ok (.iconst 0, 1) := by decide +kernel
theorem dX5_sure_43 : decode cX5_sure 43 = .ok (.ior, 1) := by decide +kernel
theorem dX5_sure_44 : decode cX5_sure 44 = .ok (.istore_n 2, 1) := by decide +kernel
theorem dX5_sure_45 : decode cX5_sure 45 = .ok (.iinc 3 1, 3) := by decide +kernel
theorem dX5_sure_48 : decode cX5_sure 48 = .ok (.goto (-34), 3) := by decide +kernel
theorem dX5_sure_51 : decode cX5_sure 51 = .ok (.bipush (-9), 2) := by decide +kernel
theorem dX5_sure_53 : decode cX5_sure 53 = .ok (.istore_n 3, 1) := by decide +kernel
theorem dX5_sure_54 : decode cX5_sure 54 = .ok (.iconst 0, 1) := by decide +kernel
theorem dX5_sure_55 : decode cX5_sure 55 = .ok (.istore 4, 2) := by decide +kernel
theorem dX5_sure_57 : decode cX5_sure 57 = .ok (.iload 4, 2) := by decide +kernel
theorem dX5_sure_59 : decode cX5_sure 59 = .ok (.bipush 8, 2) := by decide +kernel
theorem dX5_sure_61 : decode cX5_sure 61 = .ok (.if_icmp .gt 24, 3) := by decide +kernel
theorem dX5_sure_64 : decode cX5_sure 64 = .ok (.iload_n 2, 1) := by decide +kernel
theorem dX5_sure_65 : decode cX5_sure 65 = .ok (.iconst 1, 1) := by decide +kernel
theorem dX5_sure_66 : decode cX5_sure 66 = .ok (.iload 4, 2) := by decide +kernel
theorem dX5_sure_68 : decode cX5_sure 68 = .ok (.ishl, 1) := by decide +kernel
theorem dX5_sure_69 : decode cX5_sure 69 = .ok (.if_icmp .ne 8, 3) := by decide +kernel
theorem dX5_sure_72 : decode cX5_sure 72 = .ok (.iload 4, 2) := by decide +kernel
theorem dX5_sure_74 : decode cX5_sure 74 = .ok (.goto 4, 3) := by decide +kernel
theorem dX5_sure_77 : decode cX5_sure 77 = .ok (.iload_n 3, 1) := by decide +kernel
theorem dX5_sure_78 : decode cX5_sure 78 = .ok (.istore_n 3, 1) := by decide +kernel
theorem dX5_sure_79 : decode cX5_sure 79 = .ok (.iinc 4 1, 3) := by decide +kernel
theorem dX5_sure_82 : decode cX5_sure 82 = .ok (.goto (-25), 3) := by decide +kernel
theorem dX5_sure_85 : decode cX5_sure 85 = .ok (.iload_n 3, 1) := by decide +kernel
theorem dX5_sure_86 : decode cX5_sure 86 = .ok (.ireturn, 1) := by decide +kernel
theorem dX5_forget_0 : decode cX5_forget 0 = .ok (.aload_n 0, 1) := by decide +kernel
theorem dX5_forget_1 : decode cX5_forget 1 = .ok (.getfield 26, 3) := by decide +kernel
theorem dX5_forget_4 : decode cX5_forget 4 = .ok (.iconst 4, 1) := by decide +kernel
theorem dX5_forget_5 : decode cX5_forget 5 = .ok (.iaload, 1) := by decide +kernel
theorem dX5_forget_6 : decode cX5_forget 6 = .ok (.istore_n 1, 1) := by decide +kernel
theorem dX5_forget_7 : decode cX5_forget 7 = .ok (.aload_n 0, 1) := by decide +kernel
theorem dX5_forget_8 : decode cX5_forget 8 = .ok (.getfield 26, 3) := by decide +kernel
theorem dX5_forget_11 : decode cX5_forget 11 = .ok (.iconst 4, 1) := by decide +kernel
theorem dX5_forget_12 : decode cX5_forget 12 = .ok (.iconst 0, 1) := by decide +kernel
theorem dX5_forget_13 : decode cX5_forget 13 = .ok (.iastore, 1) := by decide +kernel
theorem dX5_forget_14 : decode cX5_forget 14 = .ok (.iload_n 1, 1) := by decide +kernel
theorem dX5_forget_15 : decode cX5_forget 15 = .ok (.ireturn, 1) := by decide +kernel
set_option maxRecDepth 20000 in
theorem ggX5_mark_X5_in : GoodIn wsX5_mark wsX5_in := goodIn_r _ [13] (by decide +kernel) (by decide +kernel)
set_option maxRecDepth 20000 in
theorem gX5_mark_X5_in : GoodIn wsX5_mark (va_wsS RX5 46 yX5_in wsX5_in) := goodIn_app (goodIn_of _ (by decide +kernel)) ggX5_mark_X5_in
set_option maxRecDepth 20000 in
theorem ggX5_mark_X5_isPanel : GoodIn wsX5_mark wsX5_isPanel := goodIn_r _ [17, 18, 10, 11, 12, 13, 30, 31, 32, 33, 34, 35, 36, 37, 38, 39, 40, 41, 42, 43, 44, 45, 46, 47, 48] (by decide +kernel) (by decide +kernel)
set_option maxRecDepth 20000 in
theorem gX5_mark_X5_isPanel : GoodIn wsX5_mark (wsV RX5 135 RX5 yX5_isPanel wsX5_isPanel) := goodIn_app (goodIn_of _ (by decide +kernel)) ggX5_mark_X5_isPanel
set_option maxRecDepth 20000 in
theorem ggX5_mark_X5_slotIn : GoodIn wsX5_mark wsX5_slotIn := goodIn_r _ [22, 18, 23, 24, 12, 25, 30, 31, 32, 33, 34, 35, 36, 37, 38, 39, 40, 41, 42, 43, 44, 45, 46, 47, 48] (by decide +kernel) (by decide +kernel)
set_option maxRecDepth 20000 in
theorem gX5_mark_X5_slotIn : GoodIn wsX5_mark (wsV RX5 110 RX5 yX5_slotIn wsX5_slotIn) := goodIn_app (goodIn_of _ (by decide +kernel)) ggX5_mark_X5_slotIn
set_option maxRecDepth 20000 in
theorem ggX5_mark_X5_lying : GoodIn wsX5_mark wsX5_lying := goodIn_r _ [29, 18, 19, 20, 21, 12, 22, 23, 24, 25, 30, 31, 32, 33, 34, 35, 36, 37, 38, 39, 40, 41, 42, 43, 44, 45, 46, 47, 48] (by decide +kernel) (by decide +kernel)
set_option maxRecDepth 20000 in
theorem gX5_mark_X5_lying : GoodIn wsX5_mark (wsV RX5 113 RX5 yX5_lying wsX5_lying) := goodIn_app (goodIn_of _ (by decide +kernel)) ggX5_mark_X5_lying
theorem dX5_mark_0 : decode cX5_mark 0 = .ok (.iload_n 1, 1) := by decide +kernel
theorem dX5_mark_1 : decode cX5_mark 1 = .ok (.iconst 0, 1) := by decide +kernel
theorem dX5_mark_2 : decode cX5_mark 2 = .ok (.iconst 5, 1) := by decide +kernel
theorem dX5_mark_3 : decode cX5_mark 3 = .ok (.invokestatic 46, 3) := by decide +kernel
theorem dX5_mark_6 : decode cX5_mark 6 = .ok (.ifCond .eq 11, 3) := by decide +kernel
theorem dX5_mark_9 : decode cX5_mark 9 = .ok (.aload_n 0, 1) := by decide +kernel
theorem dX5_mark_10 : decode cX5_mark 10 = .ok (.iload_n 2, 1) := by decide +kernel
theorem dX5_mark_11 : decode cX5_mark 11 = .ok (.invokevirtual 135, 3) := by decide +kernel
theorem dX5_mark_14 : decode cX5_mark 14 = .ok (.ifCond .ne 6, 3) := by decide +kernel
theorem dX5_mark_17 : decode cX5_mark 17 = .ok (.ldc 151, 2) := by decide +kernel
theorem dX5_mark_19 : decode cX5_mark 19 = .ok (.ireturn, 1) := by decide +kernel
theorem dX5_mark_20 : decode cX5_mark 20 = .ok (.aload_n 0, 1) := by decide +kernel
theorem dX5_mark_21 : decode cX5_mark 21 = .ok (.aload_n 0, 1) := by decide +kernel
theorem dX5_mark_22 : decode cX5_mark 22 = .ok (.getfield 26, 3) := by decide +kernel
theorem dX5_mark_25 : decode cX5_mark 25 = .ok (.iconst 0, 1) := by decide +kernel
theorem dX5_mark_26 : decode cX5_mark 26 = .ok (.iaload, 1) := by decide +kernel
theorem dX5_mark_27 : decode cX5_mark 27 = .ok (.iload_n 2, 1) := by decide +kernel
theorem dX5_mark_28 : decode cX5_mark 28 = .ok (.invokevirtual 110, 3) := by decide +kernel
theorem dX5_mark_31 : decode cX5_mark 31 = .ok (.istore_n 3, 1) := by decide +kernel
theorem dX5_mark_32 : decode cX5_mark 32 = .ok (.iload_n 1, 1) := by decide +kernel
theorem dX5_mark_33 : decode cX5_mark 33 = .ok (.tableswitch 139 0 4 #[35, 47, 63, 84, 107], 35) := by decide +kernel
theorem dX5_mark_68 : decode cX5_mark 68 = .ok (.aload_n 0, 1) := by decide +kernel
theorem dX5_mark_69 : decode cX5_mark 69 = .ok (.dup, 1) := by decide +kernel
theorem dX5_mark_70 : decode cX5_mark 70 = .ok (.getfield 180, 3) := by decide +kernel
theorem dX5_mark_73 : decode cX5_mark 73 = .ok (.lconst 1, 1) := by decide +kernel
theorem dX5_mark_74 : decode cX5_mark 74 = .ok (.ladd, 1) := by decide +kernel
theorem dX5_mark_75 : decode cX5_mark 75 = .ok (.putfield 180, 3) := by decide +kernel
theorem dX5_mark_78 : decode cX5_mark 78 = .ok (.iload_n 3, 1) := by decide +kernel
theorem dX5_mark_79 : decode cX5_mark 79 = .ok (.ireturn, 1) := by decide +kernel
theorem dX5_mark_80 : decode cX5_mark 80 = .ok (.aload_n 0, 1) := by decide +kernel
theorem dX5_mark_81 : decode cX5_mark 81 = .ok (.dup, 1) := by decide +kernel
theorem dX5_mark_82 : decode cX5_mark 82 = .ok (.getfield 180, 3) := by decide +kernel
theorem dX5_mark_85 : decode cX5_mark 85 = .ok (.ldc2_w 184, 3) := by decide +kernel
theorem dX5_mark_88 : decode cX5_mark 88 = .ok (.ladd, 1) := by decide +kernel
theorem dX5_mark_89 : decode cX5_mark 89 = .ok (.putfield 180, 3) := by decide +kernel
theorem dX5_mark_92 : decode cX5_mark 92 = .ok (.iconst 2, 1) := by decide +kernel
theorem dX5_mark_93 : decode cX5_mark 93 = .ok (.iload_n 3, 1) := by decide +kernel
theorem dX5_mark_94 : decode cX5_mark 94 = .ok (.imul, 1) := by decide +kernel
theorem dX5_mark_95 : decode cX5_mark 95 = .ok (.ireturn, 1) := by decide +kernel
theorem dX5_mark_96 : decode cX5_mark 96 = .ok (.aload_n 0, 1) := by decide +kernel
theorem dX5_mark_97 : decode cX5_mark 97 = .ok (.dup, 1) := by decide +kernel
theorem dX5_mark_98 : decode cX5_mark 98 = .ok (.getfield 180, 3) := by decide +kernel
theorem dX5_mark_101 : decode cX5_mark 101 = .ok (.ldc2_w 186, 3) := by decide +kernel
theorem dX5_mark_104 : decode cX5_mark 104 = .ok (.ladd, 1) := by decide +kernel
theorem dX5_mark_105 : decode cX5_mark 105 = .ok (.putfield 180, 3) := by decide +kernel
theorem dX5_mark_108 : decode cX5_mark 108 = .ok (.iload_n 3, 1) := by decide +kernel
theorem dX5_mark_109 : decode cX5_mark 109 = .ok (.aload_n 0, 1) := by decide +kernel
theorem dX5_mark_110 : decode cX5_mark 110 = .ok (.getfield 17, 3) := by decide +kernel
theorem dX5_mark_113 : decode cX5_mark 113 = .ok (.iload_n 2, 1) := by decide +kernel
theorem dX5_mark_114 : decode cX5_mark 114 = .ok (.iaload, 1) := by decide +kernel
theorem dX5_mark_115 : decode cX5_mark 115 = .ok (.iadd, 1) := by decide +kernel
theorem dX5_mark_116 : decode cX5_mark 116 = .ok (.ireturn, 1) := by decide +kernel
theorem dX5_mark_117 : decode cX5_mark 117 = .ok (.aload_n 0, 1) := by decide +kernel
theorem dX5_mark_118 : decode cX5_mark 118 = .ok (.dup, 1) := by decide +kernel
theorem dX5_mark_119 : decode cX5_mark 119 = .ok (.getfield 180, 3) := by decide +kernel
theorem dX5_mark_122 : decode cX5_mark 122 = .ok (.ldc2_w 188, 3) := by decide +kernel
theorem dX5_mark_125 : decode cX5_mark 125 = .ok (.ladd, 1) := by decide +kernel
theorem dX5_mark_126 : decode cX5_mark 126 = .ok (.putfield 180, 3) := by decide +kernel
theorem dX5_mark_129 : decode cX5_mark 129 = .ok (.iconst 2, 1) := by decide +kernel
theorem dX5_mark_130 : decode cX5_mark 130 = .ok (.iload_n 3, 1) := by decide +kernel
theorem dX5_mark_131 : decode cX5_mark 131 = .ok (.imul, 1) := by decide +kernel
theorem dX5_mark_132 : decode cX5_mark 132 = .ok (.aload_n 0, 1) := by decide +kernel
theorem dX5_mark_133 : decode cX5_mark 133 = .ok (.getfield 26, 3) := by decide +kernel
theorem dX5_mark_136 : decode cX5_mark 136 = .ok (.iconst 1, 1) := by decide +kernel
theorem dX5_mark_137 : decode cX5_mark 137 = .ok (.iaload, 1) := by decide +kernel
theorem dX5_mark_138 : decode cX5_mark 138 = .ok (.iadd, 1) := by decide +kernel
theorem dX5_mark_139 : decode cX5_mark 139 = .ok (.ireturn, 1) := by decide +kernel
theorem dX5_mark_140 : decode cX5_mark 140 = .ok (.aload_n 0, 1) := by decide +kernel
theorem dX5_mark_141 : decode cX5_mark 141 = .ok (.dup, 1) := by decide +kernel
theorem dX5_mark_142 : decode cX5_mark 142 = .ok (.getfield 180, 3) := by decide +kernel
theorem dX5_mark_145 : decode cX5_mark 145 = .ok (.ldc2_w 190, 3) := by decide +kernel
theorem dX5_mark_148 : decode cX5_mark 148 = .ok (.ladd, 1) := by decide +kernel
theorem dX5_mark_149 : decode cX5_mark 149 = .ok (.putfield 180, 3) := by decide +kernel
theorem dX5_mark_152 : decode cX5_mark 152 = .ok (.iload_n 3, 1) := by decide +kernel
theorem dX5_mark_153 : decode cX5_mark 153 = .ok (.aload_n 0, 1) := by decide +kernel
theorem dX5_mark_154 : decode cX5_mark 154 = .ok (.getfield 17, 3) := by decide +kernel
theorem dX5_mark_157 : decode cX5_mark 157 = .ok (.iload_n 2, 1) := by decide +kernel
theorem dX5_mark_158 : decode cX5_mark 158 = .ok (.iaload, 1) := by decide +kernel
theorem dX5_mark_159 : decode cX5_mark 159 = .ok (.iadd, 1) := by decide +kernel
theorem dX5_mark_160 : decode cX5_mark 160 = .ok (.aload_n 0, 1) := by decide +kernel
theorem dX5_mark_161 : decode cX5_mark 161 = .ok (.aload_n 0, 1) := by decide +kernel
theorem dX5_mark_162 : decode cX5_mark 162 = .ok (.getfield 26, 3) := by decide +kernel
theorem dX5_mark_165 : decode cX5_mark 165 = .ok (.iconst 0, 1) := by decide +kernel
theorem dX5_mark_166 : decode cX5_mark 166 = .ok (.iaload, 1) := by decide +kernel
theorem dX5_mark_167 : decode cX5_mark 167 = .ok (.invokevirtual 113, 3) := by decide +kernel
theorem dX5_mark_170 : decode cX5_mark 170 = .ok (.iadd, 1) := by decide +kernel
theorem dX5_mark_171 : decode cX5_mark 171 = .ok (.ireturn, 1) := by decide +kernel
theorem dX5_mark_172 : decode cX5_mark 172 = .ok (.aload_n 0, 1) := by decide +kernel
theorem dX5_mark_173 : decode cX5_mark 173 = .ok (.dup, 1) := by decide +kernel
theorem dX5_mark_174 : decode cX5_mark 174 = .ok (.getfield 180, 3) := by decide +kernel
theorem dX5_mark_177 : decode cX5_mark 177 = .ok (.ldc2_w 192, 3) := by decide +kernel
theorem dX5_mark_180 : decode cX5_mark 180 = .ok (.ladd, 1) := by decide +kernel
theorem dX5_mark_181 : decode cX5_mark 181 = .ok (.putfield 180, 3) := by decide +kernel
theorem dX5_mark_184 : decode cX5_mark 184 = .ok (.iload_n 3, 1) := by decide +kernel
theorem dX5_mark_185 : decode cX5_mark 185 = .ok (.iload_n 2, 1) := by decide +kernel
theorem dX5_mark_186 : decode cX5_mark 186 = .ok (.isub, 1) := by decide +kernel
theorem dX5_mark_187 : decode cX5_mark 187 = .ok (.ireturn, 1) := by decide +kernel
theorem dX5_copy_0 : decode cX5_copy 0 = .ok (.iconst 0, 1) := by decide +kernel
theorem dX5_copy_1 : decode cX5_copy 1 = .ok (.istore_n 3, 1) := by decide +kernel
theorem dX5_copy_2 : decode cX5_copy 2 = .ok (.iload_n 3, 1) := by decide +kernel
theorem dX5_copy_3 : decode cX5_copy 3 = .ok (.bipush 21, 2) := by decide +kernel
theorem dX5_copy_5 : decode cX5_copy 5 = .ok (.if_icmp .ge 25, 3) := by decide +kernel
theorem dX5_copy_8 : decode cX5_copy 8 = .ok (.aload_n 0, 1) := by decide +kernel
theorem dX5_copy_9 : decode cX5_copy 9 = .ok (.getfield 26, 3) := by decide +kernel
theorem dX5_copy_12 : decode cX5_copy 12 = .ok (.iload_n 2, 1) := by decide +kernel
theorem dX5_copy_13 : decode cX5_copy 13 = .ok (.iload_n 3, 1) := by decide +kernel
theorem dX5_copy_14 : decode cX5_copy 14 = .ok (.iadd, 1) := by decide +kernel
theorem dX5_copy_15 : decode cX5_copy 15 = .ok (.aload_n 0, 1) := by decide +kernel
theorem dX5_copy_16 : decode cX5_copy 16 = .ok (.getfield 26, 3) := by decide +kernel
theorem dX5_copy_19 : decode cX5_copy 19 = .ok (.iload_n 1, 1) := by decide +kernel
theorem dX5_copy_20 : decode cX5_copy 20 = .ok (.iload_n 3, 1) := by decide +kernel
theorem dX5_copy_21 : decode cX5_copy 21 = .ok (.iadd, 1) := by decide +kernel
theorem dX5_copy_22 : decode cX5_copy 22 = .ok (.iaload, 1) := by decide +kernel
theorem dX5_copy_23 : decode cX5_copy 23 = .ok (.iastore, 1) := by decide +kernel
theorem dX5_copy_24 : decode cX5_copy 24 = .ok (.iinc 3 1, 3) := by decide +kernel
theorem dX5_copy_27 : decode cX5_copy 27 = .ok (.goto (-25), 3) := by decide +kernel
theorem dX5_copy_30 : decode cX5_copy 30 = .ok (.return_, 1) := by decide +kernel
set_option maxRecDepth 20000 in
theorem ggX5_keep_X5_in : GoodIn wsX5_keep wsX5_in := goodIn_r _ [6] (by decide +kernel) (by decide +kernel)
set_option maxRecDepth 20000 in
theorem gX5_keep_X5_in : GoodIn wsX5_keep (va_wsS RX5 46 yX5_in wsX5_in) := goodIn_app (goodIn_of _ (by decide +kernel)) ggX5_keep_X5_in
set_option maxRecDepth 20000 in
theorem ggX5_keep_X5_copy : GoodIn wsX5_keep wsX5_copy := goodIn_r _ [10, 2, 11, 12, 13, 14, 15, 16, 17, 18, 19, 20, 21, 22, 23, 24, 25, 26, 27, 28, 29] (by decide +kernel) (by decide +kernel)
set_option maxRecDepth 20000 in
theorem gX5_keep_X5_copy : GoodIn wsX5_keep (wsV RX5 194 RX5 yX5_copy wsX5_copy) := goodIn_app (goodIn_of _ (by decide +kernel)) ggX5_keep_X5_copy
theorem dX5_keep_0 : decode cX5_keep 0 = .ok (.iload_n 1, 1) := by decide +kernel
theorem dX5_keep_1 : decode cX5_keep 1 = .ok (.iconst 0, 1) := by decide +kernel
theorem dX5_keep_2 : decode cX5_keep 2 = .ok (.iconst 1, 1) := by decide +kernel
theorem dX5_keep_3 : decode cX5_keep 3 = .ok (.invokestatic 46, 3) := by decide +kernel
theorem dX5_keep_6 : decode cX5_keep 6 = .ok (.ifCond .ne 5, 3) := by decide +kernel
theorem dX5_keep_9 : decode cX5_keep 9 = .ok (.iconst (-1), 1) := by decide +kernel
theorem dX5_keep_10 : decode cX5_keep 10 = .ok (.ireturn, 1) := by decide +kernel
theorem dX5_keep_11 : decode cX5_keep 11 = .ok (.aload_n 0, 1) := by decide +kernel
theorem dX5_keep_12 : decode cX5_keep 12 = .ok (.iconst 0, 1) := by decide +kernel
theorem dX5_keep_13 : decode cX5_keep 13 = .ok (.bipush 21, 2) := by decide +kernel
theorem dX5_keep_15 : decode cX5_keep 15 = .ok (.iconst 1, 1) := by decide +kernel
theorem dX5_keep_16 : decode cX5_keep 16 = .ok (.iload_n 1, 1) := by decide +kernel
theorem dX5_keep_17 : decode cX5_keep 17 = .ok (.iadd, 1) := by decide +kernel
theorem dX5_keep_18 : decode cX5_keep 18 = .ok (.imul, 1) := by decide +kernel
theorem dX5_keep_19 : decode cX5_keep 19 = .ok (.invokevirtual 194, 3) := by decide +kernel
theorem dX5_keep_22 : decode cX5_keep 22 = .ok (.aload_n 0, 1) := by decide +kernel
theorem dX5_keep_23 : decode cX5_keep 23 = .ok (.getfield 29, 3) := by decide +kernel
theorem dX5_keep_26 : decode cX5_keep 26 = .ok (.iload_n 1, 1) := by decide +kernel
theorem dX5_keep_27 : decode cX5_keep 27 = .ok (.iconst 1, 1) := by decide +kernel
theorem dX5_keep_28 : decode cX5_keep 28 = .ok (.bastore, 1) := by decide +kernel
theorem dX5_keep_29 : decode cX5_keep 29 = .ok (.aload_n 0, 1) := by decide +kernel
theorem dX5_keep_30 : decode cX5_keep 30 = .ok (.getfield 26, 3) := by decide +kernel
theorem dX5_keep_33 : decode cX5_keep 33 = .ok (.iconst 1, 1) := by decide +kernel
theorem dX5_keep_34 : decode cX5_keep 34 = .ok (.iaload, 1) := by decide +kernel
theorem dX5_keep_35 : decode cX5_keep 35 = .ok (.ireturn, 1) := by decide +kernel
set_option maxRecDepth 20000 in
theorem ggX5_back_X5_refuses : GoodIn wsX5_back wsX5_refuses := goodIn_r _ [6, 7, 8, 9, 5, 10, 15, 16, 17, 18, 19, 20, 21, 22, 23, 24, 25, 26, 27, 28, 29, 30, 31, 32, 33] (by decide +kernel) (by decide +kernel)
set_option maxRecDepth 20000 in
theorem gX5_back_X5_refuses : GoodIn wsX5_back (wsV RX5 165 RX5 yX5_refuses wsX5_refuses) := goodIn_app (goodIn_of _ (by decide +kernel)) ggX5_back_X5_refuses
set_option maxRecDepth 20000 in
theorem ggX5_back_X5_copy : GoodIn wsX5_back wsX5_copy := goodIn_r _ [14, 1, 15, 16, 17, 18, 19, 20, 21, 22, 23, 24, 25, 26, 27, 28, 29, 30, 31, 32, 33] (by decide +kernel) (by decide +kernel)
set_option maxRecDepth 20000 in
theorem gX5_back_X5_copy : GoodIn wsX5_back (wsV RX5 194 RX5 yX5_copy wsX5_copy) := goodIn_app (goodIn_of _ (by decide +kernel)) ggX5_back_X5_copy
theorem dX5_back_0 : decode cX5_back 0 = .ok (.aload_n 0, 1) := by decide +kernel
theorem dX5_back_1 : decode cX5_back 1 = .ok (.iload_n 1, 1) := by decide +kernel
theorem dX5_back_2 : decode cX5_back 2 = .ok (.invokevirtual 165, 3) := by decide +kernel
theorem dX5_back_5 : decode cX5_back 5 = .ok (.ifCond .eq 9, 3) := by decide +kernel
theorem dX5_back_8 : decode cX5_back 8 = .ok (.aload_n 0, 1) := by decide +kernel
theorem dX5_back_9 : decode cX5_back 9 = .ok (.iload_n 1, 1) := by decide +kernel
theorem dX5_back_10 : decode cX5_back 10 = .ok (.invokevirtual 165, 3) := by decide +kernel
theorem dX5_back_13 : decode cX5_back 13 = .ok (.ireturn, 1) := by decide +kernel
theorem dX5_back_14 : decode cX5_back 14 = .ok (.aload_n 0, 1) := by decide +kernel
theorem dX5_back_15 : decode cX5_back 15 = .ok (.bipush 21, 2) := by decide +kernel
theorem dX5_back_17 : decode cX5_back 17 = .ok (.iconst 1, 1) := by decide +kernel
theorem dX5_back_18 : decode cX5_back 18 = .ok (.iload_n 1, 1) := by decide +kernel
theorem dX5_back_19 : decode cX5_back 19 = .ok (.iadd, 1) := by decide +kernel
theorem dX5_back_20 : decode cX5_back 20 = .ok (.imul, 1) := by decide +kernel
theorem dX5_back_21 : decode cX5_back 21 = .ok (.iconst 0, 1) := by decide +kernel
theorem dX5_back_22 : decode cX5_back 22 = .ok (.invokevirtual 194, 3) := by decide +kernel
theorem dX5_back_25 : decode cX5_back 25 = .ok (.aload_n 0, 1) := by decide +kernel
theorem dX5_back_26 : decode cX5_back 26 = .ok (.getfield 26, 3) := by decide +kernel
theorem dX5_back_29 : decode cX5_back 29 = .ok (.iconst 1, 1) := by decide +kernel
theorem dX5_back_30 : decode cX5_back 30 = .ok (.iaload, 1) := by decide +kernel
theorem dX5_back_31 : decode cX5_back 31 = .ok (.ireturn, 1) := by decide +kernel
set_option maxRecDepth 20000 in
theorem ggX5_count_X5_lying : GoodIn wsX5_count wsX5_lying := goodIn_r _ [8, 1, 9, 10, 11, 7, 12, 13, 14, 15, 16, 17, 18, 19, 20, 21, 22, 23, 24, 25, 26, 27, 28, 29, 30, 31, 32, 33, 34] (by decide +kernel) (by decide +kernel)
set_option maxRecDepth 20000 in
theorem gX5_count_X5_lying : GoodIn wsX5_count (wsV RX5 113 RX5 yX5_lying wsX5_lying) := goodIn_app (goodIn_of _ (by decide +kernel)) ggX5_count_X5_lying
theorem dX5_count_0 : decode cX5_count 0 = .ok (.iload_n 1, 1) := by decide +kernel
theorem dX5_count_1 : decode cX5_count 1 = .ok (.ifCond .ne 12, 3) := by decide +kernel
theorem dX5_count_4 : decode cX5_count 4 = .ok (.aload_n 0, 1) := by decide +kernel
theorem dX5_count_5 : decode cX5_count 5 = .ok (.getfield 13, 3) := by decide +kernel
theorem dX5_count_8 : decode cX5_count 8 = .ok (.iconst 0, 1) := by decide +kernel
theorem dX5_count_9 : decode cX5_count 9 = .ok (.iaload, 1) := by decide +kernel
theorem dX5_count_10 : decode cX5_count 10 = .ok (.goto 62, 3) := by decide +kernel
theorem dX5_count_13 : decode cX5_count 13 = .ok (.iload_n 1, 1) := by decide +kernel
theorem dX5_count_14 : decode cX5_count 14 = .ok (.iconst 1, 1) := by decide +kernel
theorem dX5_count_15 : decode cX5_count 15 = .ok (.if_icmp .ne 12, 3) := by decide +kernel
theorem dX5_count_18 : decode cX5_count 18 = .ok (.aload_n 0, 1) := by decide +kernel
theorem dX5_count_19 : decode cX5_count 19 = .ok (.getfield 13, 3) := by decide +kernel
theorem dX5_count_22 : decode cX5_count 22 = .ok (.iconst 1, 1) := by decide +kernel
theorem dX5_count_23 : decode cX5_count 23 = .ok (.iaload, 1) := by decide +kernel
theorem dX5_count_24 : decode cX5_count 24 = .ok (.goto 48, 3) := by decide +kernel
theorem dX5_count_27 : decode cX5_count 27 = .ok (.iload_n 1, 1) := by decide +kernel
theorem dX5_count_28 : decode cX5_count 28 = .ok (.iconst 2, 1) := by decide +kernel
theorem dX5_count_29 : decode cX5_count 29 = .ok (.if_icmp .ne 16, 3) := by decide +kernel
theorem dX5_count_32 : decode cX5_count 32 = .ok (.aload_n 0, 1) := by decide +kernel
theorem dX5_count_33 : decode cX5_count 33 = .ok (.aload_n 0, 1) := by decide +kernel
theorem dX5_count_34 : decode cX5_count 34 = .ok (.getfield 26, 3) := by decide +kernel
theorem dX5_count_37 : decode cX5_count 37 = .ok (.iconst 0, 1) := by decide +kernel
theorem dX5_count_38 : decode cX5_count 38 = .ok (.iaload, 1) := by decide +kernel
theorem dX5_count_39 : decode cX5_count 39 = .ok (.invokevirtual 113, 3) := by decide +kernel
theorem dX5_count_42 : decode cX5_count 42 = .ok (.goto 30, 3) := by decide +kernel
theorem dX5_count_45 : decode cX5_count 45 = .ok (.iload_n 1, 1) := by decide +kernel
theorem dX5_count_46 : decode cX5_count 46 = .ok (.iconst 3, 1) := by decide +kernel
theorem dX5_count_47 : decode cX5_count 47 = .ok (.if_icmp .ne 12, 3) := by decide +kernel
theorem dX5_count_50 : decode cX5_count 50 = .ok (.aload_n 0, 1) := by decide +kernel
theorem dX5_count_51 : decode cX5_count 51 = .ok (.getfield 26, 3) := by decide +kernel
theorem dX5_count_54 : decode cX5_count 54 = .ok (.iconst 4, 1) := by decide +kernel
theorem dX5_count_55 : decode cX5_count 55 = .ok (.iaload, 1) := by decide +kernel
theorem dX5_count_56 : decode cX5_count 56 = .ok (.goto 16, 3) := by decide +kernel
theorem dX5_count_59 : decode cX5_count 59 = .ok (.iload_n 1, 1) := by decide +kernel
theorem dX5_count_60 : decode cX5_count 60 = .ok (.iconst 4, 1) := by decide +kernel
theorem dX5_count_61 : decode cX5_count 61 = .ok (.if_icmp .ne 10, 3) := by decide +kernel
theorem dX5_count_64 : decode cX5_count 64 = .ok (.aload_n 0, 1) := by decide +kernel
theorem dX5_count_65 : decode cX5_count 65 = .ok (.getfield 50, 3) := by decide +kernel
theorem dX5_count_68 : decode cX5_count 68 = .ok (.goto 4, 3) := by decide +kernel
theorem dX5_count_71 : decode cX5_count 71 = .ok (.iconst (-1), 1) := by decide +kernel
theorem dX5_count_72 : decode cX5_count 72 = .ok (.ireturn, 1) := by decide +kernel
theorem dX5_trace_0 : decode cX5_trace 0 = .ok (.aload_n 0, 1) := by decide +kernel
theorem dX5_trace_1 : decode cX5_trace 1 = .ok (.getfield 180, 3) := by decide +kernel
theorem dX5_trace_4 : decode cX5_trace 4 = .ok (.lreturn, 1) := by decide +kernel
