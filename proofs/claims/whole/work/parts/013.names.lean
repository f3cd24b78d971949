set_option maxRecDepth 20000 in
theorem ggX5_init_X5_begin : GoodIn wsX5_init wsX5_begin := goodIn_r _ [21, 7, 22, 23, 24, 25, 26, 27, 28, 29, 30, 31, 32, 33, 34, 35, 36, 37, 38, 39, 40] (by decide +kernel) (by decide +kernel)
set_option maxRecDepth 20000 in
theorem gX5_init_X5_begin : GoodIn wsX5_init (wsV RX5 42 RX5 yX5_begin wsX5_begin) := goodIn_app (goodIn_of _ (by decide +kernel)) ggX5_init_X5_begin
theorem dX5_init_0 : decode cX5_init 0 = .ok (.aload_n 0, 1) := by decide +kernel
theorem dX5_init_1 : decode cX5_init 1 = .ok (.invokespecial 1, 3) := by decide +kernel
theorem dX5_init_4 : decode cX5_init 4 = .ok (.aload_n 0, 1) := by decide +kernel
theorem dX5_init_5 : decode cX5_init 5 = .ok (.sipush 200, 3) := by decide +kernel
theorem dX5_init_8 : decode cX5_init 8 = .ok (.newarray .byte, 2) := by decide +kernel
theorem dX5_init_10 : decode cX5_init 10 = .ok (.putfield 7, 3) := by decide +kernel
theorem dX5_init_13 : decode cX5_init 13 = .ok (.aload_n 0, 1) := by decide +kernel
theorem dX5_init_14 : decode cX5_init 14 = .ok (.bipush 16, 2) := by decide +kernel
theorem dX5_init_16 : decode cX5_init 16 = .ok (.newarray .int, 2) := by decide +kernel
theorem dX5_init_18 : decode cX5_init 18 = .ok (.putfield 13, 3) := by decide +kernel
theorem dX5_init_21 : decode cX5_init 21 = .ok (.aload_n 0, 1) := by decide +kernel
theorem dX5_init_22 : decode cX5_init 22 = .ok (.bipush 8, 2) := by decide +kernel
theorem dX5_init_24 : decode cX5_init 24 = .ok (.newarray .int, 2) := by decide +kernel
theorem dX5_init_26 : decode cX5_init 26 = .ok (.putfield 17, 3) := by decide +kernel
theorem dX5_init_29 : decode cX5_init 29 = .ok (.aload_n 0, 1) := by decide +kernel
theorem dX5_init_30 : decode cX5_init 30 = .ok (.bipush 8, 2) := by decide +kernel
theorem dX5_init_32 : decode cX5_init 32 = .ok (.newarray .int, 2) := by decide +kernel
theorem dX5_init_34 : decode cX5_init 34 = .ok (.putfield 20, 3) := by decide +kernel
theorem dX5_init_37 : decode cX5_init 37 = .ok (.aload_n 0, 1) := by decide +kernel
theorem dX5_init_38 : decode cX5_init 38 = .ok (.iconst 4, 1) := by decide +kernel
theorem dX5_init_39 : decode cX5_init 39 = .ok (.newarray .int, 2) := by decide +kernel
theorem dX5_init_41 : decode cX5_init 41 = .ok (.putfield 23, 3) := by decide +kernel
theorem dX5_init_44 : decode cX5_init 44 = .ok (.aload_n 0, 1) := by decide +kernel
theorem dX5_init_45 : decode cX5_init 45 = .ok (.bipush 63, 2) := by decide +kernel
theorem dX5_init_47 : decode cX5_init 47 = .ok (.newarray .int, 2) := by decide +kernel
theorem dX5_init_49 : decode cX5_init 49 = .ok (.putfield 26, 3) := by decide +kernel
theorem dX5_init_52 : decode cX5_init 52 = .ok (.aload_n 0, 1) := by decide +kernel
theorem dX5_init_53 : decode cX5_init 53 = .ok (.iconst 2, 1) := by decide +kernel
theorem dX5_init_54 : decode cX5_init 54 = .ok (.newarray .boolean, 2) := by decide +kernel
theorem dX5_init_56 : decode cX5_init 56 = .ok (.putfield 29, 3) := by decide +kernel
theorem dX5_init_59 : decode cX5_init 59 = .ok (.aload_n 0, 1) := by decide +kernel
theorem dX5_init_60 : decode cX5_init 60 = .ok (.sipush 6561, 3) := by decide +kernel
theorem dX5_init_63 : decode cX5_init 63 = .ok (.newarray .int, 2) := by decide +kernel
theorem dX5_init_65 : decode cX5_init 65 = .ok (.putfield 33, 3) := by decide +kernel
theorem dX5_init_68 : decode cX5_init 68 = .ok (.aload_n 0, 1) := by decide +kernel
theorem dX5_init_69 : decode cX5_init 69 = .ok (.sipush 6561, 3) := by decide +kernel
theorem dX5_init_72 : decode cX5_init 72 = .ok (.newarray .int, 2) := by decide +kernel
theorem dX5_init_74 : decode cX5_init 74 = .ok (.putfield 36, 3) := by decide +kernel
theorem dX5_init_77 : decode cX5_init 77 = .ok (.aload_n 0, 1) := by decide +kernel
theorem dX5_init_78 : decode cX5_init 78 = .ok (.sipush 6561, 3) := by decide +kernel
theorem dX5_init_81 : decode cX5_init 81 = .ok (.newarray .boolean, 2) := by decide +kernel
theorem dX5_init_83 : decode cX5_init 83 = .ok (.putfield 39, 3) := by decide +kernel
theorem dX5_init_86 : decode cX5_init 86 = .ok (.aload_n 0, 1) := by decide +kernel
theorem dX5_init_87 : decode cX5_init 87 = .ok (.iconst 0, 1) := by decide +kernel
theorem dX5_init_88 : decode cX5_init 88 = .ok (.invokevirtual 42, 3) := by decide +kernel
theorem dX5_init_91 : decode cX5_init 91 = .ok (.return_, 1) := by decide +kernel
theorem dX5_in_0 : decode cX5_in 0 = .ok (.iload_n 0, 1) := by decide +kernel
theorem dX5_in_1 : decode cX5_in 1 = .ok (.iload_n 1, 1) := by decide +kernel
theorem dX5_in_2 : decode cX5_in 2 = .ok (.if_icmp .lt 12, 3) := by decide +kernel
theorem dX5_in_5 : decode cX5_in 5 = .ok (.iload_n 0, 1) := by decide +kernel
theorem dX5_in_6 : decode cX5_in 6 = .ok (.iload_n 2, 1) := by decide +kernel
theorem dX5_in_7 : decode cX5_in 7 = .ok (.if_icmp .gt 7, 3) := by decide +kernel
theorem dX5_in_10 : decode cX5_in 10 = .ok (.iconst 1, 1) := by decide +kernel
theorem dX5_in_11 : decode cX5_in 11 = .ok (.goto 4, 3) := by decide +kernel
theorem dX5_in_14 : decode cX5_in 14 = .ok (.iconst 0, 1) := by decide +kernel
theorem dX5_in_15 : decode cX5_in 15 = .ok (.ireturn, 1) := by decide +kernel
theorem dX5_begin_0 : decode cX5_begin 0 = .ok (.aload_n 0, 1) := by decide +kernel
theorem dX5_begin_1 : decode cX5_begin 1 = .ok (.getfield 13, 3) := by decide +kernel
theorem dX5_begin_4 : decode cX5_begin 4 = .ok (.iload_n 1, 1) := by decide +kernel
theorem dX5_begin_5 : decode cX5_begin 5 = .ok (.iconst 0, 1) := by decide +kernel
theorem dX5_begin_6 : decode cX5_begin 6 = .ok (.iadd, 1) := by decide +kernel
theorem dX5_begin_7 : decode cX5_begin 7 = .ok (.iconst 0, 1) := by decide +kernel
theorem dX5_begin_8 : decode cX5_begin 8 = .ok (.iastore, 1) := by decide +kernel
theorem dX5_begin_9 : decode cX5_begin 9 = .ok (.aload_n 0, 1) := by decide +kernel
theorem dX5_begin_10 : decode cX5_begin 10 = .ok (.getfield 13, 3) := by decide +kernel
theorem dX5_begin_13 : decode cX5_begin 13 = .ok (.iload_n 1, 1) := by decide +kernel
theorem dX5_begin_14 : decode cX5_begin 14 = .ok (.iconst 1, 1) := by decide +kernel
theorem dX5_begin_15 : decode cX5_begin 15 = .ok (.iadd, 1) := by decide +kernel
theorem dX5_begin_16 : decode cX5_begin 16 = .ok (.iconst 0, 1) := by decide +kernel
theorem dX5_begin_17 : decode cX5_begin 17 = .ok (.iastore, 1) := by decide +kernel
theorem dX5_begin_18 : decode cX5_begin 18 = .ok (.aload_n 0, 1) := by decide +kernel
theorem dX5_begin_19 : decode cX5_begin 19 = .ok (.getfield 13, 3) := by decide +kernel
theorem dX5_begin_22 : decode cX5_begin 22 = .ok (.iload_n 1, 1) := by decide +kernel
theorem dX5_begin_23 : decode cX5_begin 23 = .ok (.iconst 2, 1) := by decide +kernel
theorem dX5_begin_24 : decode cX5_begin 24 = .ok (.iadd, 1) := by decide +kernel
theorem dX5_begin_25 : decode cX5_begin 25 = .ok (.iconst 0, 1) := by decide +kernel
theorem dX5_begin_26 : decode cX5_begin 26 = .ok (.iastore, 1) := by decide +kernel
theorem dX5_begin_27 : decode cX5_begin 27 = .ok (.aload_n 0, 1) := by decide +kernel
theorem dX5_begin_28 : decode cX5_begin 28 = .ok (.getfield 13, 3) := by decide +kernel
theorem dX5_begin_31 : decode cX5_begin 31 = .ok (.iload_n 1, 1) := by decide +kernel
theorem dX5_begin_32 : decode cX5_begin 32 = .ok (.iconst 3, 1) := by decide +kernel
theorem dX5_begin_33 : decode cX5_begin 33 = .ok (.iadd, 1) := by decide +kernel
theorem dX5_begin_34 : decode cX5_begin 34 = .ok (.iconst 0, 1) := by decide +kernel
theorem dX5_begin_35 : decode cX5_begin 35 = .ok (.iastore, 1) := by decide +kernel
theorem dX5_begin_36 : decode cX5_begin 36 = .ok (.aload_n 0, 1) := by decide +kernel
theorem dX5_begin_37 : decode cX5_begin 37 = .ok (.getfield 13, 3) := by decide +kernel
theorem dX5_begin_40 : decode cX5_begin 40 = .ok (.iload_n 1, 1) := by decide +kernel
theorem dX5_begin_41 : decode cX5_begin 41 = .ok (.iconst 4, 1) := by decide +kernel
theorem dX5_begin_42 : decode cX5_begin 42 = .ok (.iadd, 1) := by decide +kernel
theorem dX5_begin_43 : decode cX5_begin 43 = .ok (.bipush (-9), 2) := by decide +kernel
theorem dX5_begin_45 : decode cX5_begin 45 = .ok (.iastore, 1) := by decide +kernel
theorem dX5_begin_46 : decode cX5_begin 46 = .ok (.aload_n 0, 1) := by decide +kernel
theorem dX5_begin_47 : decode cX5_begin 47 = .ok (.getfield 13, 3) := by decide +kernel
theorem dX5_begin_50 : decode cX5_begin 50 = .ok (.iload_n 1, 1) := by decide +kernel
theorem dX5_begin_51 : decode cX5_begin 51 = .ok (.iconst 5, 1) := by decide +kernel
theorem dX5_begin_52 : decode cX5_begin 52 = .ok (.iadd, 1) := by decide +kernel
theorem dX5_begin_53 : decode cX5_begin 53 = .ok (.bipush (-9), 2) := by decide +kernel
theorem dX5_begin_55 : decode cX5_begin 55 = .ok (.iastore, 1) := by decide +kernel
theorem dX5_begin_56 : decode cX5_begin 56 = .ok (.aload_n 0, 1) := by decide +kernel
theorem dX5_begin_57 : decode cX5_begin 57 = .ok (.getfield 13, 3) := by decide +kernel
theorem dX5_begin_60 : decode cX5_begin 60 = .ok (.iload_n 1, 1) := by decide +kernel
theorem dX5_begin_61 : decode cX5_begin 61 = .ok (.bipush 6, 2) := by decide +kernel
theorem dX5_begin_63 : decode cX5_begin 63 = .ok (.iadd, 1) := by decide +kernel
theorem dX5_begin_64 : decode cX5_begin 64 = .ok (.iconst 3, 1) := by decide +kernel
theorem dX5_begin_65 : decode cX5_begin 65 = .ok (.iastore, 1) := by decide +kernel
theorem dX5_begin_66 : decode cX5_begin 66 = .ok (.aload_n 0, 1) := by decide +kernel
theorem dX5_begin_67 : decode cX5_begin 67 = .ok (.getfield 13, 3) := by decide +kernel
theorem dX5_begin_70 : decode cX5_begin 70 = .ok (.iload_n 1, 1) := by decide +kernel
theorem dX5_begin_71 : decode cX5_begin 71 = .ok (.bipush 7, 2) := by decide +kernel
theorem dX5_begin_73 : decode cX5_begin 73 = .ok (.iadd, 1) := by decide +kernel
theorem dX5_begin_74 : decode cX5_begin 74 = .ok (.iconst 2, 1) := by decide +kernel
theorem dX5_begin_75 : decode cX5_begin 75 = .ok (.iastore, 1) := by decide +kernel
theorem dX5_begin_76 : decode cX5_begin 76 = .ok (.return_, 1) := by decide +kernel
set_option maxRecDepth 20000 in
theorem ggX5_type_X5_in : GoodIn wsX5_type wsX5_in := goodIn_r _ [7] (by decide +kernel) (by decide +kernel)
set_option maxRecDepth 20000 in
theorem gX5_type_X5_in : GoodIn wsX5_type (va_wsS RX5 46 yX5_in wsX5_in) := goodIn_app (goodIn_of _ (by decide +kernel)) ggX5_type_X5_in
theorem dX5_type_0 : decode cX5_type 0 = .ok (.iload_n 3, 1) := by decide +kernel
theorem dX5_type_1 : decode cX5_type 1 = .ok (.iconst 1, 1) := by decide +kernel
theorem dX5_type_2 : decode cX5_type 2 = .ok (.bipush 8, 2) := by decide +kernel
theorem dX5_type_4 : decode cX5_type 4 = .ok (.invokestatic 46, 3) := by decide +kernel
theorem dX5_type_7 : decode cX5_type 7 = .ok (.ifCond .ne 5, 3) := by decide +kernel
theorem dX5_type_10 : decode cX5_type 10 = .ok (.iconst (-1), 1) := by decide +kernel
theorem dX5_type_11 : decode cX5_type 11 = .ok (.ireturn, 1) := by decide +kernel
theorem dX5_type_12 : decode cX5_type 12 = .ok (.aload_n 0, 1) := by decide +kernel
theorem dX5_type_13 : decode cX5_type 13 = .ok (.getfield 50, 3) := by decide +kernel
theorem dX5_type_16 : decode cX5_type 16 = .ok (.iload_n 3, 1) := by decide +kernel
theorem dX5_type_17 : decode cX5_type 17 = .ok (.iadd, 1) := by decide +kernel
theorem dX5_type_18 : decode cX5_type 18 = .ok (.sipush 200, 3) := by decide +kernel
theorem dX5_type_21 : decode cX5_type 21 = .ok (.if_icmp .le 6, 3) := by decide +kernel
theorem dX5_type_24 : decode cX5_type 24 = .ok (.bipush (-3), 2) := by decide +kernel
theorem dX5_type_26 : decode cX5_type 26 = .ok (.ireturn, 1) := by decide +kernel
theorem dX5_type_27 : decode cX5_type 27 = .ok (.iload_n 3, 1) := by decide +kernel
theorem dX5_type_28 : decode cX5_type 28 = .ok (.iconst 1, 1) := by decide +kernel
theorem dX5_type_29 : decode cX5_type 29 = .ok (.isub, 1) := by decide +kernel
theorem dX5_type_30 : decode cX5_type 30 = .ok (.istore 4, 2) := by decide +kernel
theorem dX5_type_32 : decode cX5_type 32 = .ok (.iload 4, 2) := by decide +kernel
theorem dX5_type_34 : decode cX5_type 34 = .ok (.ifCond .lt 41, 3) := by decide +kernel
theorem dX5_type_37 : decode cX5_type 37 = .ok (.aload_n 0, 1) := by decide +kernel
theorem dX5_type_38 : decode cX5_type 38 = .ok (.getfield 7, 3) := by decide +kernel
theorem dX5_type_41 : decode cX5_type 41 = .ok (.aload_n 0, 1) := by decide +kernel
theorem dX5_type_42 : decode cX5_type 42 = .ok (.getfield 50, 3) := by decide +kernel
theorem dX5_type_45 : decode cX5_type 45 = .ok (.lload_n 1, 1) := by decide +kernel
theorem dX5_type_46 : decode cX5_type 46 = .ok (.bipush 8, 2) := by decide +kernel
theorem dX5_type_48 : decode cX5_type 48 = .ok (.iload 4, 2) := by decide +kernel
theorem dX5_type_50 : decode cX5_type 50 = .ok (.imul, 1) := by decide +kernel
theorem dX5_type_51 : decode cX5_type 51 = .ok (.lshr, 1) := by decide +kernel
theorem dX5_type_52 : decode cX5_type 52 = .ok (.ldc2_w 54, 3) := by decide +kernel
theorem dX5_type_55 : decode cX5_type 55 = .ok (.land, 1) := by decide +kernel
theorem dX5_type_56 : decode cX5_type 56 = .ok (.l2i, 1) := by decide +kernel
theorem dX5_type_57 : decode cX5_type 57 = .ok (.i2b, 1) := by decide +kernel
theorem dX5_type_58 : decode cX5_type 58 = .ok (.bastore, 1) := by decide +kernel
theorem dX5_type_59 : decode cX5_type 59 = .ok (.aload_n 0, 1) := by decide +kernel
theorem dX5_type_60 : decode cX5_type 60 = .ok (.dup, 1) := by decide +kernel
theorem dX5_type_61 : decode cX5_type 61 = .ok (.getfield 50, 3) := by decide +kernel
theorem dX5_type_64 : decode cX5_type 64 = .ok (.iconst 1, 1) := by decide +kernel
theorem dX5_type_65 : decode cX5_type 65 = .ok (.iadd, 1) := by decide +kernel
theorem dX5_type_66 : decode cX5_type 66 = .ok (.putfield 50, 3) := by decide +kernel
theorem dX5_type_69 : decode cX5_type 69 = .ok (.iinc 4 (-1), 3) := by decide +kernel
theorem dX5_type_72 : decode cX5_type 72 = .ok (.goto (-40), 3) := by decide +kernel
theorem dX5_type_75 : decode cX5_type 75 = .ok (.aload_n 0, 1) := by decide +kernel
theorem dX5_type_76 : decode cX5_type 76 = .ok (.getfield 50, 3) := by decide +kernel
theorem dX5_type_79 : decode cX5_type 79 = .ok (.ireturn, 1) := by decide +kernel
theorem dX5_clear_0 : decode cX5_clear 0 = .ok (.aload_n 0, 1) := by decide +kernel
theorem dX5_clear_1 : decode cX5_clear 1 = .ok (.getfield 50, 3) := by decide +kernel
theorem dX5_clear_4 : decode cX5_clear 4 = .ok (.istore_n 1, 1) := by decide +kernel
theorem dX5_clear_5 : decode cX5_clear 5 = .ok (.aload_n 0, 1) := by decide +kernel
theorem dX5_clear_6 : decode cX5_clear 6 = .ok (.iconst 0, 1) := by decide +kernel
theorem dX5_clear_7 : decode cX5_clear 7 = .ok (.putfield 50, 3) := by decide +kernel
theorem dX5_clear_10 : decode cX5_clear 10 = .ok (.iload_n 1, 1) := by decide +kernel
theorem dX5_clear_11 : decode cX5_clear 11 = .ok (.ireturn, 1) := by decide +kernel
theorem dX5_here_0 : decode cX5_here 0 = .ok (.aload_n 0, 1) := by decide +kernel
theorem dX5_here_1 : decode cX5_here 1 = .ok (.getfield 56, 3) := by decide +kernel
theorem dX5_here_4 : decode cX5_here 4 = .ok (.aload_n 0, 1) := by decide +kernel
theorem dX5_here_5 : decode cX5_here 5 = .ok (.getfield 50, 3) := by decide +kernel
theorem dX5_here_8 : decode cX5_here 8 = .ok (.if_icmp .ge 19, 3) := by decide +kernel
theorem dX5_here_11 : decode cX5_here 11 = .ok (.aload_n 0, 1) := by decide +kernel
theorem dX5_here_12 : decode cX5_here 12 = .ok (.getfield 7, 3) := by decide +kernel
theorem dX5_here_15 : decode cX5_here 15 = .ok (.aload_n 0, 1) := by decide +kernel
theorem dX5_here_16 : decode cX5_here 16 = .ok (.getfield 56, 3) := by decide +kernel
theorem dX5_here_19 : decode cX5_here 19 = .ok (.baload, 1) := by decide +kernel
theorem dX5_here_20 : decode cX5_here 20 = .ok (.sipush 255, 3) := by decide +kernel
theorem dX5_here_23 : decode cX5_here 23 = .ok (.iand, 1) := by decide +kernel
theorem dX5_here_24 : decode cX5_here 24 = .ok (.goto 4, 3) := by decide +kernel
theorem dX5_here_27 : decode cX5_here 27 = .ok (.iconst (-1), 1) := by decide +kernel
theorem dX5_here_28 : decode cX5_here 28 = .ok (.ireturn, 1) := by decide +kernel
theorem dX5_meaning_0 : decode cX5_meaning 0 = .ok (.iload_n 0, 1) := by decide +kernel
theorem dX5_meaning_1 : decode cX5_meaning 1 = .ok (.lookupswitch 116 #[(14432, 101), (43051, 97), (90302, 110), (355280, 99), (439745, 104), (453774, 91), (3957544, 93), (4281544, 113), (7742498, 107), (266660330, 95)], 91) := by decide +kernel
theorem dX5_meaning_92 : decode cX5_meaning 92 = .ok (.iconst 0, 1) := by decide +kernel
theorem dX5_meaning_93 : decode cX5_meaning 93 = .ok (.ireturn, 1) := by decide +kernel
theorem dX5_meaning_94 : decode cX5_meaning 94 = .ok (.iconst 1, 1) := by decide +kernel
theorem dX5_meaning_95 : decode cX5_meaning 95 = .ok (.ireturn, 1) := by decide +kernel
theorem dX5_meaning_96 : decode cX5_meaning 96 = .ok (.iconst 3, 1) := by decide +kernel
theorem dX5_meaning_97 : decode cX5_meaning 97 = .ok (.ireturn, 1) := by decide +kernel
theorem dX5_meaning_98 : decode cX5_meaning 98 = .ok (.iconst 4, 1) := by decide +kernel
theorem dX5_meaning_99 : decode cX5_meaning 99 = .ok (.ireturn, 1) := by decide +kernel
theorem dX5_meaning_100 : decode cX5_meaning 100 = .ok (.iconst 5, 1) := by decide +kernel
theorem dX5_meaning_101 : decode cX5_meaning 101 = .ok (.ireturn, 1) := by decide +kernel
theorem dX5_meaning_102 : decode cX5_meaning 102 = .ok (.bipush 6, 2) := by decide +kernel
theorem dX5_meaning_104 : decode cX5_meaning 104 = .ok (.ireturn, 1) := by decide +kernel
theorem dX5_meaning_105 : decode cX5_meaning 105 = .ok (.bipush 7, 2) := by decide +kernel
theorem dX5_meaning_107 : decode cX5_meaning 107 = .ok (.ireturn, 1) := by decide +kernel
theorem dX5_meaning_108 : decode cX5_meaning 108 = .ok (.bipush 8, 2) := by decide +kernel
theorem dX5_meaning_110 : decode cX5_meaning 110 = .ok (.ireturn, 1) := by decide +kernel
theorem dX5_meaning_111 : decode cX5_meaning 111 = .ok (.bipush 9, 2) := by decide +kernel
theorem dX5_meaning_113 : decode cX5_meaning 113 = .ok (.ireturn, 1) := by decide +kernel
theorem dX5_meaning_114 : decode cX5_meaning 114 = .ok (.bipush 10, 2) := by decide +kernel
theorem dX5_meaning_116 : decode cX5_meaning 116 = .ok (.ireturn, 1) := by decide +kernel
theorem dX5_meaning_117 : decode cX5_meaning 117 = .ok (.bipush 14, 2) := by decide +kernel
theorem dX5_meaning_119 : decode cX5_meaning 119 = .ok (.ireturn, 1) := by decide +kernel
set_option maxRecDepth 20000 in
theorem ggX5_next_X5_here : GoodIn wsX5_next wsX5_here := goodIn_r _ [10, 1, 11, 12, 19, 20, 21, 22, 23, 24, 25, 26, 27, 28, 29, 30, 31, 32, 33, 34, 35, 36, 37] (by decide +kernel) (by decide +kernel)
set_option maxRecDepth 20000 in
theorem gX5_next_X5_here : GoodIn wsX5_next (wsV RX5 59 RX5 yX5_here wsX5_here) := goodIn_app (goodIn_of _ (by decide +kernel)) ggX5_next_X5_here
set_option maxRecDepth 20000 in
theorem ggX5_next_X5_in : GoodIn wsX5_next wsX5_in := goodIn_r _ [15] (by decide +kernel) (by decide +kernel)
set_option maxRecDepth 20000 in
theorem gX5_next_X5_in : GoodIn wsX5_next (va_wsS RX5 46 yX5_in wsX5_in) := goodIn_app (goodIn_of _ (by decide +kernel)) ggX5_next_X5_in
set_option maxRecDepth 20000 in
theorem ggX5_next_X5_meaning : GoodIn wsX5_next wsX5_meaning := goodIn_r _ [18] (by decide +kernel) (by decide +kernel)
set_option maxRecDepth 20000 in
theorem gX5_next_X5_meaning : GoodIn wsX5_next (va_wsS RX5 72 yX5_meaning wsX5_meaning) := goodIn_app (goodIn_of _ (by decide +kernel)) ggX5_next_X5_meaning
theorem dX5_next_0 : decode cX5_next 0 = .ok (.aload_n 0, 1) := by decide +kernel
theorem dX5_next_1 : decode cX5_next 1 = .ok (.invokevirtual 59, 3) := by decide +kernel
theorem dX5_next_4 : decode cX5_next 4 = .ok (.bipush 32, 2) := by decide +kernel
theorem dX5_next_6 : decode cX5_next 6 = .ok (.if_icmp .ne 16, 3) := by decide +kernel
theorem dX5_next_9 : decode cX5_next 9 = .ok (.aload_n 0, 1) := by decide +kernel
theorem dX5_next_10 : decode cX5_next 10 = .ok (.dup, 1) := by decide +kernel
theorem dX5_next_11 : decode cX5_next 11 = .ok (.getfield 56, 3) := by decide +kernel
theorem dX5_next_14 : decode cX5_next 14 = .ok (.iconst 1, 1) := by decide +kernel
theorem dX5_next_15 : decode cX5_next 15 = .ok (.iadd, 1) := by decide +kernel
theorem dX5_next_16 : decode cX5_next 16 = .ok (.putfield 56, 3) := by decide +kernel
theorem dX5_next_19 : decode cX5_next 19 = .ok (.goto (-19), 3) := by decide +kernel
theorem dX5_next_22 : decode cX5_next 22 = .ok (.aload_n 0, 1) := by decide +kernel
theorem dX5_next_23 : decode cX5_next 23 = .ok (.aload_n 0, 1) := by decide +kernel
theorem dX5_next_24 : decode cX5_next 24 = .ok (.getfield 56, 3) := by decide +kernel
theorem dX5_next_27 : decode cX5_next 27 = .ok (.putfield 63, 3) := by decide +kernel
theorem dX5_next_30 : decode cX5_next 30 = .ok (.aload_n 0, 1) := by decide +kernel
theorem dX5_next_31 : decode cX5_next 31 = .ok (.iconst 0, 1) := by decide +kernel
theorem dX5_next_32 : decode cX5_next 32 = .ok (.putfield 66, 3) := by decide +kernel
theorem dX5_next_35 : decode cX5_next 35 = .ok (.aload_n 0, 1) := by decide +kernel
theorem dX5_next_36 : decode cX5_next 36 = .ok (.invokevirtual 59, 3) := by decide +kernel
theorem dX5_next_39 : decode cX5_next 39 = .ok (.istore_n 1, 1) := by decide +kernel
theorem dX5_next_40 : decode cX5_next 40 = .ok (.iload_n 1, 1) := by decide +kernel
theorem dX5_next_41 : decode cX5_next 41 = .ok (.ifCond .ge 12, 3) := by decide +kernel
theorem dX5_next_44 : decode cX5_next 44 = .ok (.aload_n 0, 1) := by decide +kernel
theorem dX5_next_45 : decode cX5_next 45 = .ok (.bipush 11, 2) := by decide +kernel
theorem dX5_next_47 : decode cX5_next 47 = .ok (.putfield 69, 3) := by decide +kernel
theorem dX5_next_50 : decode cX5_next 50 = .ok (.goto 289, 3) := by decide +kernel
theorem dX5_next_53 : decode cX5_next 53 = .ok (.iload_n 1, 1) := by decide +kernel
theorem dX5_next_54 : decode cX5_next 54 = .ok (.bipush 97, 2) := by decide +kernel
theorem dX5_next_56 : decode cX5_next 56 = .ok (.bipush 122, 2) := by decide +kernel
theorem dX5_next_58 : decode cX5_next 58 = .ok (.invokestatic 46, 3) := by decide +kernel
theorem dX5_next_61 : decode cX5_next 61 = .ok (.ifCond .eq 136, 3) := by decide +kernel
theorem dX5_next_64 : decode cX5_next 64 = .ok (.iconst 0, 1) := by decide +kernel
theorem dX5_next_65 : decode cX5_next 65 = .ok (.istore_n 2, 1) := by decide +kernel
theorem dX5_next_66 : decode cX5_next 66 = .ok (.iconst 0, 1) := by decide +kernel
theorem dX5_next_67 : decode cX5_next 67 = .ok (.istore_n 3, 1) := by decide +kernel
theorem dX5_next_68 : decode cX5_next 68 = .ok (.aload_n 0, 1) := by decide +kernel
theorem dX5_next_69 : decode cX5_next 69 = .ok (.invokevirtual 59, 3) := by decide +kernel
theorem dX5_next_72 : decode cX5_next 72 = .ok (.bipush 97, 2) := by decide +kernel
theorem dX5_next_74 : decode cX5_next 74 = .ok (.bipush 122, 2) := by decide +kernel
theorem dX5_next_76 : decode cX5_next 76 = .ok (.invokestatic 46, 3) := by decide +kernel
theorem dX5_next_79 : decode cX5_next 79 = .ok (.ifCond .eq 82, 3) := by decide +kernel
theorem dX5_next_82 : decode cX5_next 82 = .ok (.aload_n 0, 1) := by decide +kernel
theorem dX5_next_83 : decode cX5_next 83 = .ok (.getfield 56, 3) := by decide +kernel
theorem dX5_next_86 : decode cX5_next 86 = .ok (.aload_n 0, 1) := by decide +kernel
theorem dX5_next_87 : decode cX5_next 87 = .ok (.getfield 63, 3) := by decide +kernel
theorem dX5_next_90 : decode cX5_next 90 = .ok (.isub, 1) := by decide +kernel
theorem dX5_next_91 : decode cX5_next 91 = .ok (.istore 4, 2) := by decide +kernel
theorem dX5_next_93 : decode cX5_next 93 = .ok (.iload 4, 2) := by decide +kernel
theorem dX5_next_95 : decode cX5_next 95 = .ok (.bipush 6, 2) := by decide +kernel
theorem dX5_next_97 : decode cX5_next 97 = .ok (.if_icmp .ge 18, 3) := by decide +kernel
theorem dX5_next_100 : decode cX5_next 100 = .ok (.bipush 27, 2) := by decide +kernel
theorem dX5_next_102 : decode cX5_next 102 = .ok (.iload_n 2, 1) := by decide +kernel
theorem dX5_next_103 : decode cX5_next 103 = .ok (.imul, 1) := by decide +kernel
theorem dX5_next_104 : decode cX5_next 104 = .ok (.aload_n 0, 1) := by decide +kernel
theorem dX5_next_105 : decode cX5_next 105 = .ok (.invokevirtual 59, 3) := by decide +kernel
theorem dX5_next_108 : decode cX5_next 108 = .ok (.iadd, 1) := by decide +kernel
theorem dX5_next_109 : decode cX5_next 109 = .ok (.bipush 96, 2) := by decide +kernel
theorem dX5_next_111 : decode cX5_next 111 = .ok (.isub, 1) := by decide +kernel
theorem dX5_next_112 : decode cX5_next 112 = .ok (.goto 4, 3) := by decide +kernel
theorem dX5_next_115 : decode cX5_next 115 = .ok (.iload_n 2, 1) := by decide +kernel
theorem dX5_next_116 : decode cX5_next 116 = .ok (.istore_n 2, 1) := by decide +kernel
theorem dX5_next_117 : decode cX5_next 117 = .ok (.iload 4, 2) := by decide +kernel
theorem dX5_next_119 : decode cX5_next 119 = .ok (.bipush 6, 2) := by decide +kernel
theorem dX5_next_121 : decode cX5_next 121 = .ok (.if_icmp .ne 13, 3) := by decide +kernel
theorem dX5_next_124 : decode cX5_next 124 = .ok (.aload_n 0, 1) := by decide +kernel
theorem dX5_next_125 : decode cX5_next 125 = .ok (.invokevirtual 59, 3) := by decide +kernel
theorem dX5_next_128 : decode cX5_next 128 = .ok (.bipush 96, 2) := by decide +kernel
theorem dX5_next_130 : decode cX5_next 130 = .ok (.isub, 1) := by decide +kernel
theorem dX5_next_131 : decode cX5_next 131 = .ok (.goto 16, 3) := by decide +kernel
theorem dX5_next_134 : decode cX5_next 134 = .ok (.iload 4, 2) := by decide +kernel
theorem dX5_next_136 : decode cX5_next 136 = .ok (.bipush 6, 2) := by decide +kernel
theorem dX5_next_138 : decode cX5_next 138 = .ok (.if_icmp .le 8, 3) := by decide +kernel
theorem dX5_next_141 : decode cX5_next 141 = .ok (.bipush 99, 2) := by decide +kernel
theorem dX5_next_143 : decode cX5_next 143 = .ok (.goto 4, 3) := by decide +kernel
theorem dX5_next_146 : decode cX5_next 146 = .ok (.iload_n 3, 1) := by decide +kernel
theorem dX5_next_147 : decode cX5_next 147 = .ok (.istore_n 3, 1) := by decide +kernel
theorem dX5_next_148 : decode cX5_next 148 = .ok (.aload_n 0, 1) := by decide +kernel
theorem dX5_next_149 : decode cX5_next 149 = .ok (.dup, 1) := by decide +kernel
theorem dX5_next_150 : decode cX5_next 150 = .ok (.getfield 56, 3) := by decide +kernel
theorem dX5_next_153 : decode cX5_next 153 = .ok (.iconst 1, 1) := by decide +kernel
theorem dX5_next_154 : decode cX5_next 154 = .ok (.iadd, 1) := by decide +kernel
theorem dX5_next_155 : decode cX5_next 155 = .ok (.putfield 56, 3) := by decide +kernel
theorem dX5_next_158 : decode cX5_next 158 = .ok (.goto (-90), 3) := by decide +kernel
theorem dX5_next_161 : decode cX5_next 161 = .ok (.aload_n 0, 1) := by decide +kernel
theorem dX5_next_162 : decode cX5_next 162 = .ok (.iload_n 3, 1) := by decide +kernel
theorem dX5_next_163 : decode cX5_next 163 = .ok (.ifCond .ne 10, 3) := by decide +kernel
theorem dX5_next_166 : decode cX5_next 166 = .ok (.iload_n 2, 1) := by decide +kernel
theorem dX5_next_167 : decode cX5_next 167 = .ok (.invokestatic 72, 3) := by decide +kernel
theorem dX5_next_170 : decode cX5_next 170 = .ok (.goto 21, 3) := by decide +kernel
theorem dX5_next_173 : decode cX5_next 173 = .ok (.iload_n 2, 1) := by decide +kernel
theorem dX5_next_174 : decode cX5_next 174 = .ok (.ldc 76, 2) := by decide +kernel
theorem dX5_next_176 : decode cX5_next 176 = .ok (.if_icmp .ne 13, 3) := by decide +kernel
theorem dX5_next_179 : decode cX5_next 179 = .ok (.iload_n 3, 1) := by decide +kernel
theorem dX5_next_180 : decode cX5_next 180 = .ok (.bipush 14, 2) := by decide +kernel
theorem dX5_next_182 : decode cX5_next 182 = .ok (.if_icmp .ne 7, 3) := by decide +kernel
theorem dX5_next_185 : decode cX5_next 185 = .ok (.iconst 2, 1) := by decide +kernel
theorem dX5_next_186 : decode cX5_next 186 = .ok (.goto 5, 3) := by decide +kernel
theorem dX5_next_189 : decode cX5_next 189 = .ok (.bipush 14, 2) := by decide +kernel
theorem dX5_next_191 : decode cX5_next 191 = .ok (.putfield 69, 3) := by decide +kernel
theorem dX5_next_194 : decode cX5_next 194 = .ok (.goto 145, 3) := by decide +kernel
theorem dX5_next_197 : decode cX5_next 197 = .ok (.iload_n 1, 1) := by decide +kernel
theorem dX5_next_198 : decode cX5_next 198 = .ok (.bipush 48, 2) := by decide +kernel
theorem dX5_next_200 : decode cX5_next 200 = .ok (.bipush 57, 2) := by decide +kernel
theorem dX5_next_202 : decode cX5_next 202 = .ok (.invokestatic 46, 3) := by decide +kernel
theorem dX5_next_205 : decode cX5_next 205 = .ok (.ifCond .eq 107, 3) := by decide +kernel
theorem dX5_next_208 : decode cX5_next 208 = .ok (.aload_n 0, 1) := by decide +kernel
theorem dX5_next_209 : decode cX5_next 209 = .ok (.invokevirtual 59, 3) := by decide +kernel
theorem dX5_next_212 : decode cX5_next 212 = .ok (.bipush 48, 2) := by decide +kernel
theorem dX5_next_214 : decode cX5_next 214 = .ok (.bipush 57, 2) := by decide +kernel
theorem dX5_next_216 : decode cX5_next 216 = .ok (.invokestatic 46, 3) := by decide +kernel
theorem dX5_next_219 : decode cX5_next 219 = .ok (.ifCond .eq 51, 3) := by decide +kernel
theorem dX5_next_222 : decode cX5_next 222 = .ok (.aload_n 0, 1) := by decide +kernel
theorem dX5_next_223 : decode cX5_next 223 = .ok (.aload_n 0, 1) := by decide +kernel
theorem dX5_next_224 : decode cX5_next 224 = .ok (.getfield 66, 3) := by decide +kernel
theorem dX5_next_227 : decode cX5_next 227 = .ok (.bipush 99, 2) := by decide +kernel
theorem dX5_next_229 : decode cX5_next 229 = .ok (.if_icmp .le 10, 3) := by decide +kernel
theorem dX5_next_232 : decode cX5_next 232 = .ok (.aload_n 0, 1) := by decide +kernel
theorem dX5_next_233 : decode cX5_next 233 = .ok (.getfield 66, 3) := by decide +kernel
theorem dX5_next_236 : decode cX5_next 236 = .ok (.goto 18, 3) := by decide +kernel
theorem dX5_next_239 : decode cX5_next 239 = .ok (.bipush 10, 2) := by decide +kernel
theorem dX5_next_241 : decode cX5_next 241 = .ok (.aload_n 0, 1) := by decide +kernel
theorem dX5_next_242 : decode cX5_next 242 = .ok (.getfield 66, 3) := by decide +kernel
theorem dX5_next_245 : decode cX5_next 245 = .ok (.imul, 1) := by decide +kernel
theorem dX5_next_246 : decode cX5_next 246 = .ok (.aload_n 0, 1) := by decide +kernel
theorem dX5_next_247 : decode cX5_next 247 = .ok (.invokevirtual 59, 3) := by decide +kernel
theorem dX5_next_250 : decode cX5_next 250 = .ok (.iadd, 1) := by decide +kernel
theorem dX5_next_251 : decode cX5_next 251 = .ok (.bipush 48, 2) := by decide +kernel
theorem dX5_next_253 : decode cX5_next 253 = .ok (.isub, 1) := by decide +kernel
theorem dX5_next_254 : decode cX5_next 254 = .ok (.putfield 66, 3) := by decide +kernel
theorem dX5_next_257 : decode cX5_next 257 = .ok (.aload_n 0, 1) := by decide +kernel
theorem dX5_next_258 : decode cX5_next 258 = .ok (.dup, 1) := by decide +kernel
theorem dX5_next_259 : decode cX5_next 259 = .ok (.getfield 56, 3) := by decide +kernel
theorem dX5_next_262 : decode cX5_next 262 = .ok (.iconst 1, 1) := by decide +kernel
theorem dX5_next_263 : decode cX5_next 263 = .ok (.iadd, 1) := by decide +kernel
theorem dX5_next_264 : decode cX5_next 264 = .ok (.putfield 56, 3) := by decide +kernel
theorem dX5_next_267 : decode cX5_next 267 = .ok (.goto (-59), 3) := by decide +kernel
theorem dX5_next_270 : decode cX5_next 270 = .ok (.aload_n 0, 1) := by decide +kernel
theorem dX5_next_271 : decode cX5_next 271 = .ok (.aload_n 0, 1) := by decide +kernel
theorem dX5_next_272 : decode cX5_next 272 = .ok (.getfield 66, 3) := by decide +kernel
theorem dX5_next_275 : decode cX5_next 275 = .ok (.bipush 99, 2) := by decide +kernel
theorem dX5_next_277 : decode cX5_next 277 = .ok (.if_icmp .gt 22, 3) := by decide +kernel
theorem dX5_next_280 : decode cX5_next 280 = .ok (.iload_n 1, 1) := by decide +kernel
theorem dX5_next_281 : decode cX5_next 281 = .ok (.bipush 48, 2) := by decide +kernel
theorem dX5_next_283 : decode cX5_next 283 = .ok (.if_icmp .ne 21, 3) := by decide +kernel
theorem dX5_next_286 : decode cX5_next 286 = .ok (.aload_n 0, 1) := by decide +kernel
theorem dX5_next_287 : decode cX5_next 287 = .ok (.getfield 56, 3) := by decide +kernel
theorem dX5_next_290 : decode cX5_next 290 = .ok (.aload_n 0, 1) := by decide +kernel
theorem dX5_next_291 : decode cX5_next 291 = .ok (.getfield 63, 3) := by decide +kernel
theorem dX5_next_294 : decode cX5_next 294 = .ok (.isub, 1) := by decide +kernel
theorem dX5_next_295 : decode cX5_next 295 = .ok (.iconst 1, 1) := by decide +kernel
theorem dX5_next_296 : decode cX5_next 296 = .ok (.if_icmp .le 8, 3) := by decide +kernel
theorem dX5_next_299 : decode cX5_next 299 = .ok (.bipush 14, 2) := by decide +kernel
theorem dX5_next_301 : decode cX5_next 301 = .ok (.goto 5, 3) := by decide +kernel
theorem dX5_next_304 : decode cX5_next 304 = .ok (.bipush 12, 2) := by decide +kernel
theorem dX5_next_306 : decode cX5_next 306 = .ok (.putfield 69, 3) := by decide +kernel
theorem dX5_next_309 : decode cX5_next 309 = .ok (.goto 30, 3) := by decide +kernel
theorem dX5_next_312 : decode cX5_next 312 = .ok (.aload_n 0, 1) := by decide +kernel
theorem dX5_next_313 : decode cX5_next 313 = .ok (.dup, 1) := by decide +kernel
theorem dX5_next_314 : decode cX5_next 314 = .ok (.getfield 56, 3) := by decide +kernel
theorem dX5_next_317 : decode cX5_next 317 = .ok (.iconst 1, 1) := by decide +kernel
theorem dX5_next_318 : decode cX5_next 318 = .ok (.iadd, 1) := by decide +kernel
theorem dX5_next_319 : decode cX5_next 319 = .ok (.putfield 56, 3) := by decide +kernel
theorem dX5_next_322 : decode cX5_next 322 = .ok (.aload_n 0, 1) := by decide +kernel
theorem dX5_next_323 : decode cX5_next 323 = .ok (.iload_n 1, 1) := by decide +kernel
theorem dX5_next_324 : decode cX5_next 324 = .ok (.bipush 59, 2) := by decide +kernel
theorem dX5_next_326 : decode cX5_next 326 = .ok (.if_icmp .ne 8, 3) := by decide +kernel
theorem dX5_next_329 : decode cX5_next 329 = .ok (.bipush 13, 2) := by decide +kernel
theorem dX5_next_331 : decode cX5_next 331 = .ok (.goto 5, 3) := by decide +kernel
theorem dX5_next_334 : decode cX5_next 334 = .ok (.bipush 14, 2) := by decide +kernel
theorem dX5_next_336 : decode cX5_next 336 = .ok (.putfield 69, 3) := by decide +kernel
theorem dX5_next_339 : decode cX5_next 339 = .ok (.return_, 1) := by decide +kernel
set_option maxRecDepth 20000 in
theorem ggX5_due_X5_next : GoodIn wsX5_due wsX5_next := goodIn_r _ [8, 9, 3, 1, 10, 11, 12, 13, 14, 7, 15, 16, 17, 18, 19, 20, 21, 22, 23, 24, 25, 26, 27, 28, 29, 30, 31, 32, 33, 34, 35, 36, 37, 38, 39, 40, 41, 42] (by decide +kernel) (by decide +kernel)
set_option maxRecDepth 20000 in
theorem gX5_due_X5_next : GoodIn wsX5_due (wsV RX5 80 RX5 yX5_next wsX5_next) := goodIn_app (goodIn_of _ (by decide +kernel)) ggX5_due_X5_next
theorem dX5_due_0 : decode cX5_due 0 = .ok (.aload_n 0, 1) := by decide +kernel
theorem dX5_due_1 : decode cX5_due 1 = .ok (.getfield 66, 3) := by decide +kernel
theorem dX5_due_4 : decode cX5_due 4 = .ok (.istore_n 2, 1) := by decide +kernel
theorem dX5_due_5 : decode cX5_due 5 = .ok (.aload_n 0, 1) := by decide +kernel
theorem dX5_due_6 : decode cX5_due 6 = .ok (.getfield 77, 3) := by decide +kernel
theorem dX5_due_9 : decode cX5_due 9 = .ok (.bipush (-9), 2) := by decide +kernel
theorem dX5_due_11 : decode cX5_due 11 = .ok (.if_icmp .ne 22, 3) := by decide +kernel
theorem dX5_due_14 : decode cX5_due 14 = .ok (.iload_n 1, 1) := by decide +kernel
theorem dX5_due_15 : decode cX5_due 15 = .ok (.ifCond .eq 10, 3) := by decide +kernel
theorem dX5_due_18 : decode cX5_due 18 = .ok (.aload_n 0, 1) := by decide +kernel
theorem dX5_due_19 : decode cX5_due 19 = .ok (.invokevirtual 80, 3) := by decide +kernel
theorem dX5_due_22 : decode cX5_due 22 = .ok (.goto 11, 3) := by decide +kernel
theorem dX5_due_25 : decode cX5_due 25 = .ok (.aload_n 0, 1) := by decide +kernel
theorem dX5_due_26 : decode cX5_due 26 = .ok (.aload_n 0, 1) := by decide +kernel
theorem dX5_due_27 : decode cX5_due 27 = .ok (.getfield 63, 3) := by decide +kernel
theorem dX5_due_30 : decode cX5_due 30 = .ok (.putfield 77, 3) := by decide +kernel
theorem dX5_due_33 : decode cX5_due 33 = .ok (.iload_n 2, 1) := by decide +kernel
theorem dX5_due_34 : decode cX5_due 34 = .ok (.ireturn, 1) := by decide +kernel
set_option maxRecDepth 20000 in
theorem ggX5_number_X5_in : GoodIn wsX5_number wsX5_in := goodIn_r _ [6] (by decide +kernel) (by decide +kernel)
set_option maxRecDepth 20000 in
theorem gX5_number_X5_in : GoodIn wsX5_number (va_wsS RX5 46 yX5_in wsX5_in) := goodIn_app (goodIn_of _ (by decide +kernel)) ggX5_number_X5_in
set_option maxRecDepth 20000 in
theorem ggX5_number_X5_due : GoodIn wsX5_number wsX5_due := goodIn_r _ [10, 2, 11, 12, 13, 14, 15, 5, 16, 17, 1, 18, 19, 20, 21, 22, 23, 24, 3, 4, 6, 25, 26, 27, 28, 29, 30, 31, 32, 33, 34, 35, 36, 37, 38, 39, 40, 41, 42, 43, 44, 45, 46] (by decide +kernel) (by decide +kernel)
set_option maxRecDepth 20000 in
theorem gX5_number_X5_due : GoodIn wsX5_number (wsV RX5 83 RX5 yX5_due wsX5_due) := goodIn_app (goodIn_of _ (by decide +kernel)) ggX5_number_X5_due
theorem dX5_number_0 : decode cX5_number 0 = .ok (.aload_n 0, 1) := by decide +kernel
theorem dX5_number_1 : decode cX5_number 1 = .ok (.aload_n 0, 1) := by decide +kernel
theorem dX5_number_2 : decode cX5_number 2 = .ok (.getfield 69, 3) := by decide +kernel
theorem dX5_number_5 : decode cX5_number 5 = .ok (.bipush 12, 2) := by decide +kernel
theorem dX5_number_7 : decode cX5_number 7 = .ok (.if_icmp .ne 19, 3) := by decide +kernel
theorem dX5_number_10 : decode cX5_number 10 = .ok (.aload_n 0, 1) := by decide +kernel
theorem dX5_number_11 : decode cX5_number 11 = .ok (.getfield 66, 3) := by decide +kernel
theorem dX5_number_14 : decode cX5_number 14 = .ok (.iload_n 1, 1) := by decide +kernel
theorem dX5_number_15 : decode cX5_number 15 = .ok (.iload_n 2, 1) := by decide +kernel
theorem dX5_number_16 : decode cX5_number 16 = .ok (.invokestatic 46, 3) := by decide +kernel
theorem dX5_number_19 : decode cX5_number 19 = .ok (.ifCond .eq 7, 3) := by decide +kernel
theorem dX5_number_22 : decode cX5_number 22 = .ok (.iconst 1, 1) := by decide +kernel
theorem dX5_number_23 : decode cX5_number 23 = .ok (.goto 4, 3) := by decide +kernel
theorem dX5_number_26 : decode cX5_number 26 = .ok (.iconst 0, 1) := by decide +kernel
theorem dX5_number_27 : decode cX5_number 27 = .ok (.invokevirtual 83, 3) := by decide +kernel
theorem dX5_number_30 : decode cX5_number 30 = .ok (.ireturn, 1) := by decide +kernel
theorem dX5_stands_0 : decode cX5_stands 0 = .ok (.iconst 0, 1) := by decide +kernel
theorem dX5_stands_1 : decode cX5_stands 1 = .ok (.istore_n 2, 1) := by decide +kernel
theorem dX5_stands_2 : decode cX5_stands 2 = .ok (.iconst 0, 1) := by decide +kernel
theorem dX5_stands_3 : decode cX5_stands 3 = .ok (.istore_n 3, 1) := by decide +kernel
theorem dX5_stands_4 : decode cX5_stands 4 = .ok (.iload_n 3, 1) := by decide +kernel
theorem dX5_stands_5 : decode cX5_stands 5 = .ok (.aload_n 0, 1) := by decide +kernel
theorem dX5_stands_6 : decode cX5_stands 6 = .ok (.getfield 13, 3) := by decide +kernel
theorem dX5_stands_9 : decode cX5_stands 9 = .ok (.bipush 8, 2) := by decide +kernel
theorem dX5_stands_11 : decode cX5_stands 11 = .ok (.iaload, 1) := by decide +kernel
theorem dX5_stands_12 : decode cX5_stands 12 = .ok (.if_icmp .ge 37, 3) := by decide +kernel
theorem dX5_stands_15 : decode cX5_stands 15 = .ok (.iload_n 2, 1) := by decide +kernel
theorem dX5_stands_16 : decode cX5_stands 16 = .ok (.ifCond .ne 21, 3) := by decide +kernel
theorem dX5_stands_19 : decode cX5_stands 19 = .ok (.iload_n 1, 1) := by decide +kernel
theorem dX5_stands_20 : decode cX5_stands 20 = .ok (.bipush 8, 2) := by decide +kernel
theorem dX5_stands_22 : decode cX5_stands 22 = .ok (.if_icmp .ge 19, 3) := by decide +kernel
theorem dX5_stands_25 : decode cX5_stands 25 = .ok (.aload_n 0, 1) := by decide +kernel
theorem dX5_stands_26 : decode cX5_stands 26 = .ok (.getfield 20, 3) := by decide +kernel
theorem dX5_stands_29 : decode cX5_stands 29 = .ok (.iconst 4, 1) := by decide +kernel
theorem dX5_stands_30 : decode cX5_stands 30 = .ok (.iload_n 3, 1) := by decide +kernel
theorem dX5_stands_31 : decode cX5_stands 31 = .ok (.iadd, 1) := by decide +kernel
theorem dX5_stands_32 : decode cX5_stands 32 = .ok (.iaload, 1) := by decide +kernel
theorem dX5_stands_33 : decode cX5_stands 33 = .ok (.iload_n 1, 1) := by decide +kernel
theorem dX5_stands_34 : decode cX5_stands 34 = .ok (.if_icmp .ne 7, 3) := by decide +kernel
theorem dX5_stands_37 : decode cX5_stands 37 = .ok (.iconst 1, 1) := by decide +kernel
theorem dX5_stands_38 : decode cX5_stands 38 = .ok (.goto 4, 3) := by decide +kernel
theorem dX5_stands_41 : decode cX5_stands 41 = .ok (.iconst 0, 1) := by decide +kernel
theorem dX5_stands_42 : decode cX5_stands 42 = .ok (.istore_n 2, 1) := by decide +kernel
theorem dX5_stands_43 : decode cX5_stands 43 = .ok (.iinc 3 1, 3) := by decide +kernel
theorem dX5_stands_46 : decode cX5_stands 46 = .ok (.goto (-42), 3) := by decide +kernel
theorem dX5_stands_49 : decode cX5_stands 49 = .ok (.iload_n 2, 1) := by decide +kernel
theorem dX5_stands_50 : decode cX5_stands 50 = .ok (.ireturn, 1) := by decide +kernel
set_option maxRecDepth 20000 in
theorem ggX5_round_X5_number : GoodIn wsX5_round wsX5_number := goodIn_r _ [6, 7, 8, 9, 10, 5, 11, 12, 13, 14, 15, 1, 16, 17, 18, 19, 20, 21, 22, 23, 24, 25, 26, 27, 28, 29, 30, 31, 32, 33, 34, 35, 36, 37, 38, 39, 40, 41, 42, 43, 44, 45, 46, 47, 48, 49, 50] (by decide +kernel) (by decide +kernel)
set_option maxRecDepth 20000 in
theorem gX5_round_X5_number : GoodIn wsX5_round (wsV RX5 87 RX5 yX5_number wsX5_number) := goodIn_app (goodIn_of _ (by decide +kernel)) ggX5_round_X5_number
theorem dX5_round_0 : decode cX5_round 0 = .ok (.aload_n 0, 1) := by decide +kernel
theorem dX5_round_1 : decode cX5_round 1 = .ok (.iconst 0, 1) := by decide +kernel
theorem dX5_round_2 : decode cX5_round 2 = .ok (.bipush 7, 2) := by decide +kernel
theorem dX5_round_4 : decode cX5_round 4 = .ok (.invokevirtual 87, 3) := by decide +kernel
theorem dX5_round_7 : decode cX5_round 7 = .ok (.istore_n 1, 1) := by decide +kernel
theorem dX5_round_8 : decode cX5_round 8 = .ok (.aload_n 0, 1) := by decide +kernel
theorem dX5_round_9 : decode cX5_round 9 = .ok (.iconst 1, 1) := by decide +kernel
theorem dX5_round_10 : decode cX5_round 10 = .ok (.bipush 8, 2) := by decide +kernel
theorem dX5_round_12 : decode cX5_round 12 = .ok (.invokevirtual 87, 3) := by decide +kernel
theorem dX5_round_15 : decode cX5_round 15 = .ok (.istore_n 2, 1) := by decide +kernel
theorem dX5_round_16 : decode cX5_round 16 = .ok (.iconst 0, 1) := by decide +kernel
theorem dX5_round_17 : decode cX5_round 17 = .ok (.istore_n 3, 1) := by decide +kernel
theorem dX5_round_18 : decode cX5_round 18 = .ok (.iconst 0, 1) := by decide +kernel
theorem dX5_round_19 : decode cX5_round 19 = .ok (.istore 4, 2) := by decide +kernel
theorem dX5_round_21 : decode cX5_round 21 = .ok (.iload 4, 2) := by decide +kernel
theorem dX5_round_23 : decode cX5_round 23 = .ok (.iload_n 2, 1) := by decide +kernel
theorem dX5_round_24 : decode cX5_round 24 = .ok (.if_icmp .ge 30, 3) := by decide +kernel
theorem dX5_round_27 : decode cX5_round 27 = .ok (.aload_n 0, 1) := by decide +kernel
theorem dX5_round_28 : decode cX5_round 28 = .ok (.getfield 77, 3) := by decide +kernel
theorem dX5_round_31 : decode cX5_round 31 = .ok (.bipush (-9), 2) := by decide +kernel
theorem dX5_round_33 : decode cX5_round 33 = .ok (.if_icmp .ne 21, 3) := by decide +kernel
theorem dX5_round_36 : decode cX5_round 36 = .ok (.iload_n 3, 1) := by decide +kernel
theorem dX5_round_37 : decode cX5_round 37 = .ok (.iconst 1, 1) := by decide +kernel
theorem dX5_round_38 : decode cX5_round 38 = .ok (.iload_n 1, 1) := by decide +kernel
theorem dX5_round_39 : decode cX5_round 39 = .ok (.iload 4, 2) := by decide +kernel
theorem dX5_round_41 : decode cX5_round 41 = .ok (.iadd, 1) := by decide +kernel
theorem dX5_round_42 : decode cX5_round 42 = .ok (.bipush 8, 2) := by decide +kernel
theorem dX5_round_44 : decode cX5_round 44 = .ok (.irem, 1) := by decide +kernel
theorem dX5_round_45 : decode cX5_round 45 = .ok (.ishl, 1) := by decide +kernel
theorem dX5_round_46 : decode cX5_round 46 = .ok (.ior, 1) := by decide +kernel
theorem dX5_round_47 : decode cX5_round 47 = .ok (.istore_n 3, 1) := by decide +kernel
theorem dX5_round_48 : decode cX5_round 48 = .ok (.iinc 4 1, 3) := by decide +kernel
theorem dX5_round_51 : decode cX5_round 51 = .ok (.goto (-30), 3) := by decide +kernel
theorem dX5_round_54 : decode cX5_round 54 = .ok (.iload_n 3, 1) := by decide +kernel
theorem dX5_round_55 : decode cX5_round 55 = .ok (.ireturn, 1) := by decide +kernel
theorem dX5_mayItem_0 : decode cX5_mayItem 0 = .ok (.iload_n 1, 1) := by decide +kernel
theorem dX5_mayItem_1 : decode cX5_mayItem 1 = .ok (.iconst 4, 1) := by decide +kernel
theorem dX5_mayItem_2 : decode cX5_mayItem 2 = .ok (.if_icmp .ge 22, 3) := by decide +kernel
theorem dX5_mayItem_5 : decode cX5_mayItem 5 = .ok (.aload_n 0, 1) := by decide +kernel
theorem dX5_mayItem_6 : decode cX5_mayItem 6 = .ok (.getfield 13, 3) := by decide +kernel
theorem dX5_mayItem_9 : decode cX5_mayItem 9 = .ok (.bipush 8, 2) := by decide +kernel
theorem dX5_mayItem_11 : decode cX5_mayItem 11 = .ok (.iaload, 1) := by decide +kernel
theorem dX5_mayItem_12 : decode cX5_mayItem 12 = .ok (.iconst 4, 1) := by decide +kernel
theorem dX5_mayItem_13 : decode cX5_mayItem 13 = .ok (.if_icmp .ge 7, 3) := by decide +kernel
theorem dX5_mayItem_16 : decode cX5_mayItem 16 = .ok (.iconst 1, 1) := by decide +kernel
theorem dX5_mayItem_17 : decode cX5_mayItem 17 = .ok (.goto 59, 3) := by decide +kernel
theorem dX5_mayItem_20 : decode cX5_mayItem 20 = .ok (.iconst 0, 1) := by decide +kernel
theorem dX5_mayItem_21 : decode cX5_mayItem 21 = .ok (.goto 55, 3) := by decide +kernel
theorem dX5_mayItem_24 : decode cX5_mayItem 24 = .ok (.iload_n 1, 1) := by decide +kernel
theorem dX5_mayItem_25 : decode cX5_mayItem 25 = .ok (.iconst 4, 1) := by decide +kernel
theorem dX5_mayItem_26 : decode cX5_mayItem 26 = .ok (.if_icmp .ne 22, 3) := by decide +kernel
theorem dX5_mayItem_29 : decode cX5_mayItem 29 = .ok (.aload_n 0, 1) := by decide +kernel
theorem dX5_mayItem_30 : decode cX5_mayItem 30 = .ok (.getfield 13, 3) := by decide +kernel
theorem dX5_mayItem_33 : decode cX5_mayItem 33 = .ok (.bipush 9, 2) := by decide +kernel
theorem dX5_mayItem_35 : decode cX5_mayItem 35 = .ok (.iaload, 1) := by decide +kernel
theorem dX5_mayItem_36 : decode cX5_mayItem 36 = .ok (.iconst 2, 1) := by decide +kernel
theorem dX5_mayItem_37 : decode cX5_mayItem 37 = .ok (.if_icmp .ge 7, 3) := by decide +kernel
theorem dX5_mayItem_40 : decode cX5_mayItem 40 = .ok (.iconst 1, 1) := by decide +kernel
theorem dX5_mayItem_41 : decode cX5_mayItem 41 = .ok (.goto 35, 3) := by decide +kernel
theorem dX5_mayItem_44 : decode cX5_mayItem 44 = .ok (.iconst 0, 1) := by decide +kernel
theorem dX5_mayItem_45 : decode cX5_mayItem 45 = .ok (.goto 31, 3) := by decide +kernel
theorem dX5_mayItem_48 : decode cX5_mayItem 48 = .ok (.iload_n 1, 1) := by decide +kernel
theorem dX5_mayItem_49 : decode cX5_mayItem 49 = .ok (.bipush 7, 2) := by decide +kernel
theorem dX5_mayItem_51 : decode cX5_mayItem 51 = .ok (.if_icmp .lt 20, 3) := by decide +kernel
theorem dX5_mayItem_54 : decode cX5_mayItem 54 = .ok (.iload_n 1, 1) := by decide +kernel
theorem dX5_mayItem_55 : decode cX5_mayItem 55 = .ok (.bipush 10, 2) := by decide +kernel
theorem dX5_mayItem_57 : decode cX5_mayItem 57 = .ok (.if_icmp .gt 18, 3) := by decide +kernel
theorem dX5_mayItem_60 : decode cX5_mayItem 60 = .ok (.aload_n 0, 1) := by decide +kernel
theorem dX5_mayItem_61 : decode cX5_mayItem 61 = .ok (.getfield 91, 3) := by decide +kernel
theorem dX5_mayItem_64 : decode cX5_mayItem 64 = .ok (.iload_n 1, 1) := by decide +kernel
theorem dX5_mayItem_65 : decode cX5_mayItem 65 = .ok (.ishr, 1) := by decide +kernel
theorem dX5_mayItem_66 : decode cX5_mayItem 66 = .ok (.iconst 1, 1) := by decide +kernel
theorem dX5_mayItem_67 : decode cX5_mayItem 67 = .ok (.iand, 1) := by decide +kernel
theorem dX5_mayItem_68 : decode cX5_mayItem 68 = .ok (.ifCond .ne 7, 3) := by decide +kernel
theorem dX5_mayItem_71 : decode cX5_mayItem 71 = .ok (.iconst 1, 1) := by decide +kernel
theorem dX5_mayItem_72 : decode cX5_mayItem 72 = .ok (.goto 4, 3) := by decide +kernel
theorem dX5_mayItem_75 : decode cX5_mayItem 75 = .ok (.iconst 0, 1) := by decide +kernel
theorem dX5_mayItem_76 : decode cX5_mayItem 76 = .ok (.ireturn, 1) := by decide +kernel
set_option maxRecDepth 20000 in
theorem ggX5_readItem_X5_mayItem : GoodIn wsX5_readItem wsX5_mayItem := goodIn_r _ [13, 4, 3, 49, 50, 51, 52, 53, 54, 55, 56, 57, 58, 59, 60, 61, 62, 63, 64, 65, 66, 67] (by decide +kernel) (by decide +kernel)
set_option maxRecDepth 20000 in
theorem gX5_readItem_X5_mayItem : GoodIn wsX5_readItem (wsV RX5 94 RX5 yX5_mayItem wsX5_mayItem) := goodIn_app (goodIn_of _ (by decide +kernel)) ggX5_readItem_X5_mayItem
set_option maxRecDepth 20000 in
theorem ggX5_readItem_X5_due : GoodIn wsX5_readItem wsX5_due := goodIn_r _ [17, 6, 2, 18, 19, 20, 21, 12, 22, 23, 1, 24, 25, 26, 27, 28, 29, 30, 31, 32, 33, 34, 35, 36, 49, 50, 51, 52, 53, 54, 55, 56, 57, 58, 59, 60, 61, 62, 63, 64, 65, 66, 67] (by decide +kernel) (by decide +kernel)
set_option maxRecDepth 20000 in
theorem gX5_readItem_X5_due : GoodIn wsX5_readItem (wsV RX5 83 RX5 yX5_due wsX5_due) := goodIn_app (goodIn_of _ (by decide +kernel)) ggX5_readItem_X5_due
set_option maxRecDepth 20000 in
theorem ggX5_readItem_X5_in : GoodIn wsX5_readItem wsX5_in := goodIn_r _ [33] (by decide +kernel) (by decide +kernel)
set_option maxRecDepth 20000 in
theorem gX5_readItem_X5_in : GoodIn wsX5_readItem (va_wsS RX5 46 yX5_in wsX5_in) := goodIn_app (goodIn_of _ (by decide +kernel)) ggX5_readItem_X5_in
set_option maxRecDepth 20000 in
theorem ggX5_readItem_X5_stands : GoodIn wsX5_readItem wsX5_stands := goodIn_r _ [40, 4, 7, 49, 50, 51, 52, 53, 54, 55, 56, 57, 58, 59, 60, 61, 62, 63, 64, 65, 66, 67] (by decide +kernel) (by decide +kernel)
set_option maxRecDepth 20000 in
theorem gX5_readItem_X5_stands : GoodIn wsX5_readItem (wsV RX5 98 RX5 yX5_stands wsX5_stands) := goodIn_app (goodIn_of _ (by decide +kernel)) ggX5_readItem_X5_stands
set_option maxRecDepth 20000 in
theorem ggX5_readItem_X5_round : GoodIn wsX5_readItem wsX5_round := goodIn_r _ [44, 2, 45, 46, 47, 12, 48, 1, 6, 31, 32, 33, 14, 15, 16, 17, 18, 19, 20, 21, 22, 23, 24, 25, 26, 27, 28, 29, 30, 34, 35, 36, 49, 50, 51, 52, 53, 54, 55, 56, 57, 58, 59, 60, 61, 62, 63, 64, 65, 66, 67] (by decide +kernel) (by decide +kernel)
set_option maxRecDepth 20000 in
theorem gX5_readItem_X5_round : GoodIn wsX5_readItem (wsV RX5 101 RX5 yX5_round wsX5_round) := goodIn_app (goodIn_of _ (by decide +kernel)) ggX5_readItem_X5_round
set_option maxRecDepth 20000 in
theorem ggX5_readItem_X5_number : GoodIn wsX5_readItem wsX5_number := goodIn_r _ [48, 1, 6, 31, 32, 12, 33, 14, 15, 16, 17, 2, 18, 19, 20, 21, 22, 23, 24, 25, 26, 27, 28, 29, 30, 34, 35, 36, 49, 50, 51, 52, 53, 54, 55, 56, 57, 58, 59, 60, 61, 62, 63, 64, 65, 66, 67] (by decide +kernel) (by decide +kernel)
set_option maxRecDepth 20000 in
theorem gX5_readItem_X5_number : GoodIn wsX5_readItem (wsV RX5 87 RX5 yX5_number wsX5_number) := goodIn_app (goodIn_of _ (by decide +kernel)) ggX5_readItem_X5_number
theorem dX5_readItem_0 : decode cX5_readItem 0 = .ok (.aload_n 0, 1) := by decide +kernel
theorem dX5_readItem_1 : decode cX5_readItem 1 = .ok (.getfield 69, 3) := by decide +kernel
theorem dX5_readItem_4 : decode cX5_readItem 4 = .ok (.istore_n 1, 1) := by decide +kernel
theorem dX5_readItem_5 : decode cX5_readItem 5 = .ok (.aload_n 0, 1) := by decide +kernel
theorem dX5_readItem_6 : decode cX5_readItem 6 = .ok (.aload_n 0, 1) := by decide +kernel
theorem dX5_readItem_7 : decode cX5_readItem 7 = .ok (.iload_n 1, 1) := by decide +kernel
theorem dX5_readItem_8 : decode cX5_readItem 8 = .ok (.invokevirtual 94, 3) := by decide +kernel
theorem dX5_readItem_11 : decode cX5_readItem 11 = .ok (.invokevirtual 83, 3) := by decide +kernel
theorem dX5_readItem_14 : decode cX5_readItem 14 = .ok (.pop, 1) := by decide +kernel
theorem dX5_readItem_15 : decode cX5_readItem 15 = .ok (.aload_n 0, 1) := by decide +kernel
theorem dX5_readItem_16 : decode cX5_readItem 16 = .ok (.getfield 77, 3) := by decide +kernel
theorem dX5_readItem_19 : decode cX5_readItem 19 = .ok (.bipush (-9), 2) := by decide +kernel
theorem dX5_readItem_21 : decode cX5_readItem 21 = .ok (.if_icmp .eq 4, 3) := by decide +kernel
theorem dX5_readItem_24 : decode cX5_readItem 24 = .ok (.return_, 1) := by decide +kernel
theorem dX5_readItem_25 : decode cX5_readItem 25 = .ok (.aload_n 0, 1) := by decide +kernel
theorem dX5_readItem_26 : decode cX5_readItem 26 = .ok (.dup, 1) := by decide +kernel
theorem dX5_readItem_27 : decode cX5_readItem 27 = .ok (.getfield 91, 3) := by decide +kernel
theorem dX5_readItem_30 : decode cX5_readItem 30 = .ok (.iconst 1, 1) := by decide +kernel
theorem dX5_readItem_31 : decode cX5_readItem 31 = .ok (.iload_n 1, 1) := by decide +kernel
theorem dX5_readItem_32 : decode cX5_readItem 32 = .ok (.ishl, 1) := by decide +kernel
theorem dX5_readItem_33 : decode cX5_readItem 33 = .ok (.ior, 1) := by decide +kernel
theorem dX5_readItem_34 : decode cX5_readItem 34 = .ok (.putfield 91, 3) := by decide +kernel
theorem dX5_readItem_37 : decode cX5_readItem 37 = .ok (.iload_n 1, 1) := by decide +kernel
theorem dX5_readItem_38 : decode cX5_readItem 38 = .ok (.iconst 4, 1) := by decide +kernel
theorem dX5_readItem_39 : decode cX5_readItem 39 = .ok (.if_icmp .ge 84, 3) := by decide +kernel
theorem dX5_readItem_42 : decode cX5_readItem 42 = .ok (.iconst 4, 1) := by decide +kernel
theorem dX5_readItem_43 : decode cX5_readItem 43 = .ok (.aload_n 0, 1) := by decide +kernel
theorem dX5_readItem_44 : decode cX5_readItem 44 = .ok (.getfield 13, 3) := by decide +kernel
theorem dX5_readItem_47 : decode cX5_readItem 47 = .ok (.bipush 8, 2) := by decide +kernel
theorem dX5_readItem_49 : decode cX5_readItem 49 = .ok (.iaload, 1) := by decide +kernel
theorem dX5_readItem_50 : decode cX5_readItem 50 = .ok (.iadd, 1) := by decide +kernel
theorem dX5_readItem_51 : decode cX5_readItem 51 = .ok (.istore_n 2, 1) := by decide +kernel
theorem dX5_readItem_52 : decode cX5_readItem 52 = .ok (.aload_n 0, 1) := by decide +kernel
theorem dX5_readItem_53 : decode cX5_readItem 53 = .ok (.getfield 17, 3) := by decide +kernel
theorem dX5_readItem_56 : decode cX5_readItem 56 = .ok (.iload_n 2, 1) := by decide +kernel
theorem dX5_readItem_57 : decode cX5_readItem 57 = .ok (.iload_n 1, 1) := by decide +kernel
theorem dX5_readItem_58 : decode cX5_readItem 58 = .ok (.iastore, 1) := by decide +kernel
theorem dX5_readItem_59 : decode cX5_readItem 59 = .ok (.aload_n 0, 1) := by decide +kernel
theorem dX5_readItem_60 : decode cX5_readItem 60 = .ok (.getfield 69, 3) := by decide +kernel
theorem dX5_readItem_63 : decode cX5_readItem 63 = .ok (.bipush 12, 2) := by decide +kernel
theorem dX5_readItem_65 : decode cX5_readItem 65 = .ok (.if_icmp .ne 31, 3) := by decide +kernel
theorem dX5_readItem_68 : decode cX5_readItem 68 = .ok (.aload_n 0, 1) := by decide +kernel
theorem dX5_readItem_69 : decode cX5_readItem 69 = .ok (.getfield 66, 3) := by decide +kernel
theorem dX5_readItem_72 : decode cX5_readItem 72 = .ok (.iconst 0, 1) := by decide +kernel
theorem dX5_readItem_73 : decode cX5_readItem 73 = .ok (.bipush 8, 2) := by decide +kernel
theorem dX5_readItem_75 : decode cX5_readItem 75 = .ok (.invokestatic 46, 3) := by decide +kernel
theorem dX5_readItem_78 : decode cX5_readItem 78 = .ok (.ifCond .eq 18, 3) := by decide +kernel
theorem dX5_readItem_81 : decode cX5_readItem 81 = .ok (.aload_n 0, 1) := by decide +kernel
theorem dX5_readItem_82 : decode cX5_readItem 82 = .ok (.aload_n 0, 1) := by decide +kernel
theorem dX5_readItem_83 : decode cX5_readItem 83 = .ok (.getfield 66, 3) := by decide +kernel
theorem dX5_readItem_86 : decode cX5_readItem 86 = .ok (.invokevirtual 98, 3) := by decide +kernel
theorem dX5_readItem_89 : decode cX5_readItem 89 = .ok (.ifCond .ne 7, 3) := by decide +kernel
theorem dX5_readItem_92 : decode cX5_readItem 92 = .ok (.iconst 1, 1) := by decide +kernel
theorem dX5_readItem_93 : decode cX5_readItem 93 = .ok (.goto 4, 3) := by decide +kernel
theorem dX5_readItem_96 : decode cX5_readItem 96 = .ok (.iconst 0, 1) := by decide +kernel
theorem dX5_readItem_97 : decode cX5_readItem 97 = .ok (.istore_n 3, 1) := by decide +kernel
theorem dX5_readItem_98 : decode cX5_readItem 98 = .ok (.aload_n 0, 1) := by decide +kernel
theorem dX5_readItem_99 : decode cX5_readItem 99 = .ok (.getfield 20, 3) := by decide +kernel
theorem dX5_readItem_102 : decode cX5_readItem 102 = .ok (.iload_n 2, 1) := by decide +kernel
theorem dX5_readItem_103 : decode cX5_readItem 103 = .ok (.aload_n 0, 1) := by decide +kernel
theorem dX5_readItem_104 : decode cX5_readItem 104 = .ok (.iload_n 3, 1) := by decide +kernel
theorem dX5_readItem_105 : decode cX5_readItem 105 = .ok (.invokevirtual 83, 3) := by decide +kernel
theorem dX5_readItem_108 : decode cX5_readItem 108 = .ok (.iastore, 1) := by decide +kernel
theorem dX5_readItem_109 : decode cX5_readItem 109 = .ok (.aload_n 0, 1) := by decide +kernel
theorem dX5_readItem_110 : decode cX5_readItem 110 = .ok (.getfield 13, 3) := by decide +kernel
theorem dX5_readItem_113 : decode cX5_readItem 113 = .ok (.bipush 8, 2) := by decide +kernel
theorem dX5_readItem_115 : decode cX5_readItem 115 = .ok (.dup2, 1) := by decide +kernel
theorem dX5_readItem_116 : decode cX5_readItem 116 = .ok (.iaload, 1) := by decide +kernel
theorem dX5_readItem_117 : decode cX5_readItem 117 = .ok (.iconst 1, 1) := by decide +kernel
theorem dX5_readItem_118 : decode cX5_readItem 118 = .ok (.iadd, 1) := by decide +kernel
theorem dX5_readItem_119 : decode cX5_readItem 119 = .ok (.iastore, 1) := by decide +kernel
theorem dX5_readItem_120 : decode cX5_readItem 120 = .ok (.goto 119, 3) := by decide +kernel
theorem dX5_readItem_123 : decode cX5_readItem 123 = .ok (.iload_n 1, 1) := by decide +kernel
theorem dX5_readItem_124 : decode cX5_readItem 124 = .ok (.iconst 4, 1) := by decide +kernel
theorem dX5_readItem_125 : decode cX5_readItem 125 = .ok (.if_icmp .ne 35, 3) := by decide +kernel
theorem dX5_readItem_128 : decode cX5_readItem 128 = .ok (.aload_n 0, 1) := by decide +kernel
theorem dX5_readItem_129 : decode cX5_readItem 129 = .ok (.getfield 23, 3) := by decide +kernel
theorem dX5_readItem_132 : decode cX5_readItem 132 = .ok (.iconst 2, 1) := by decide +kernel
theorem dX5_readItem_133 : decode cX5_readItem 133 = .ok (.aload_n 0, 1) := by decide +kernel
theorem dX5_readItem_134 : decode cX5_readItem 134 = .ok (.getfield 13, 3) := by decide +kernel
theorem dX5_readItem_137 : decode cX5_readItem 137 = .ok (.bipush 9, 2) := by decide +kernel
theorem dX5_readItem_139 : decode cX5_readItem 139 = .ok (.iaload, 1) := by decide +kernel
theorem dX5_readItem_140 : decode cX5_readItem 140 = .ok (.iadd, 1) := by decide +kernel
theorem dX5_readItem_141 : decode cX5_readItem 141 = .ok (.aload_n 0, 1) := by decide +kernel
theorem dX5_readItem_142 : decode cX5_readItem 142 = .ok (.invokevirtual 101, 3) := by decide +kernel
theorem dX5_readItem_145 : decode cX5_readItem 145 = .ok (.iastore, 1) := by decide +kernel
theorem dX5_readItem_146 : decode cX5_readItem 146 = .ok (.aload_n 0, 1) := by decide +kernel
theorem dX5_readItem_147 : decode cX5_readItem 147 = .ok (.getfield 13, 3) := by decide +kernel
theorem dX5_readItem_150 : decode cX5_readItem 150 = .ok (.bipush 9, 2) := by decide +kernel
theorem dX5_readItem_152 : decode cX5_readItem 152 = .ok (.dup2, 1) := by decide +kernel
theorem dX5_readItem_153 : decode cX5_readItem 153 = .ok (.iaload, 1) := by decide +kernel
theorem dX5_readItem_154 : decode cX5_readItem 154 = .ok (.iconst 1, 1) := by decide +kernel
theorem dX5_readItem_155 : decode cX5_readItem 155 = .ok (.iadd, 1) := by decide +kernel
theorem dX5_readItem_156 : decode cX5_readItem 156 = .ok (.iastore, 1) := by decide +kernel
theorem dX5_readItem_157 : decode cX5_readItem 157 = .ok (.goto 82, 3) := by decide +kernel
theorem dX5_readItem_160 : decode cX5_readItem 160 = .ok (.iload_n 1, 1) := by decide +kernel
theorem dX5_readItem_161 : decode cX5_readItem 161 = .ok (.bipush 7, 2) := by decide +kernel
theorem dX5_readItem_163 : decode cX5_readItem 163 = .ok (.if_icmp .ge 24, 3) := by decide +kernel
theorem dX5_readItem_166 : decode cX5_readItem 166 = .ok (.aload_n 0, 1) := by decide +kernel
theorem dX5_readItem_167 : decode cX5_readItem 167 = .ok (.getfield 13, 3) := by decide +kernel
theorem dX5_readItem_170 : decode cX5_readItem 170 = .ok (.bipush 10, 2) := by decide +kernel
theorem dX5_readItem_172 : decode cX5_readItem 172 = .ok (.iload_n 1, 1) := by decide +kernel
theorem dX5_readItem_173 : decode cX5_readItem 173 = .ok (.iadd, 1) := by decide +kernel
theorem dX5_readItem_174 : decode cX5_readItem 174 = .ok (.iconst 5, 1) := by decide +kernel
theorem dX5_readItem_175 : decode cX5_readItem 175 = .ok (.isub, 1) := by decide +kernel
theorem dX5_readItem_176 : decode cX5_readItem 176 = .ok (.dup2, 1) := by decide +kernel
theorem dX5_readItem_177 : decode cX5_readItem 177 = .ok (.iaload, 1) := by decide +kernel
theorem dX5_readItem_178 : decode cX5_readItem 178 = .ok (.aload_n 0, 1) := by decide +kernel
theorem dX5_readItem_179 : decode cX5_readItem 179 = .ok (.invokevirtual 101, 3) := by decide +kernel
theorem dX5_readItem_182 : decode cX5_readItem 182 = .ok (.ior, 1) := by decide +kernel
theorem dX5_readItem_183 : decode cX5_readItem 183 = .ok (.iastore, 1) := by decide +kernel
theorem dX5_readItem_184 : decode cX5_readItem 184 = .ok (.goto 55, 3) := by decide +kernel
theorem dX5_readItem_187 : decode cX5_readItem 187 = .ok (.iload_n 1, 1) := by decide +kernel
theorem dX5_readItem_188 : decode cX5_readItem 188 = .ok (.bipush 10, 2) := by decide +kernel
theorem dX5_readItem_190 : decode cX5_readItem 190 = .ok (.if_icmp .ne 7, 3) := by decide +kernel
theorem dX5_readItem_193 : decode cX5_readItem 193 = .ok (.iconst 1, 1) := by decide +kernel
theorem dX5_readItem_194 : decode cX5_readItem 194 = .ok (.goto 4, 3) := by decide +kernel
theorem dX5_readItem_197 : decode cX5_readItem 197 = .ok (.iconst 0, 1) := by decide +kernel
theorem dX5_readItem_198 : decode cX5_readItem 198 = .ok (.istore_n 2, 1) := by decide +kernel
theorem dX5_readItem_199 : decode cX5_readItem 199 = .ok (.aload_n 0, 1) := by decide +kernel
theorem dX5_readItem_200 : decode cX5_readItem 200 = .ok (.getfield 13, 3) := by decide +kernel
theorem dX5_readItem_203 : decode cX5_readItem 203 = .ok (.bipush 12, 2) := by decide +kernel
theorem dX5_readItem_205 : decode cX5_readItem 205 = .ok (.iload_n 1, 1) := by decide +kernel
theorem dX5_readItem_206 : decode cX5_readItem 206 = .ok (.iadd, 1) := by decide +kernel
theorem dX5_readItem_207 : decode cX5_readItem 207 = .ok (.bipush 7, 2) := by decide +kernel
theorem dX5_readItem_209 : decode cX5_readItem 209 = .ok (.isub, 1) := by decide +kernel
theorem dX5_readItem_210 : decode cX5_readItem 210 = .ok (.aload_n 0, 1) := by decide +kernel
theorem dX5_readItem_211 : decode cX5_readItem 211 = .ok (.iload_n 2, 1) := by decide +kernel
theorem dX5_readItem_212 : decode cX5_readItem 212 = .ok (.iload_n 1, 1) := by decide +kernel
theorem dX5_readItem_213 : decode cX5_readItem 213 = .ok (.bipush 9, 2) := by decide +kernel
theorem dX5_readItem_215 : decode cX5_readItem 215 = .ok (.if_icmp .ge 8, 3) := by decide +kernel
theorem dX5_readItem_218 : decode cX5_readItem 218 = .ok (.bipush 7, 2) := by decide +kernel
theorem dX5_readItem_220 : decode cX5_readItem 220 = .ok (.goto 15, 3) := by decide +kernel
theorem dX5_readItem_223 : decode cX5_readItem 223 = .ok (.iload_n 1, 1) := by decide +kernel
theorem dX5_readItem_224 : decode cX5_readItem 224 = .ok (.bipush 9, 2) := by decide +kernel
theorem dX5_readItem_226 : decode cX5_readItem 226 = .ok (.if_icmp .ne 7, 3) := by decide +kernel
theorem dX5_readItem_229 : decode cX5_readItem 229 = .ok (.iconst 4, 1) := by decide +kernel
theorem dX5_readItem_230 : decode cX5_readItem 230 = .ok (.goto 5, 3) := by decide +kernel
theorem dX5_readItem_233 : decode cX5_readItem 233 = .ok (.bipush 9, 2) := by decide +kernel
theorem dX5_readItem_235 : decode cX5_readItem 235 = .ok (.invokevirtual 87, 3) := by decide +kernel
theorem dX5_readItem_238 : decode cX5_readItem 238 = .ok (.iastore, 1) := by decide +kernel
theorem dX5_readItem_239 : decode cX5_readItem 239 = .ok (.aload_n 0, 1) := by decide +kernel
theorem dX5_readItem_240 : decode cX5_readItem 240 = .ok (.aload_n 0, 1) := by decide +kernel
theorem dX5_readItem_241 : decode cX5_readItem 241 = .ok (.getfield 69, 3) := by decide +kernel
theorem dX5_readItem_244 : decode cX5_readItem 244 = .ok (.bipush 13, 2) := by decide +kernel
theorem dX5_readItem_246 : decode cX5_readItem 246 = .ok (.if_icmp .ne 7, 3) := by decide +kernel
theorem dX5_readItem_249 : decode cX5_readItem 249 = .ok (.iconst 1, 1) := by decide +kernel
theorem dX5_readItem_250 : decode cX5_readItem 250 = .ok (.goto 4, 3) := by decide +kernel
theorem dX5_readItem_253 : decode cX5_readItem 253 = .ok (.iconst 0, 1) := by decide +kernel
theorem dX5_readItem_254 : decode cX5_readItem 254 = .ok (.invokevirtual 83, 3) := by decide +kernel
theorem dX5_readItem_257 : decode cX5_readItem 257 = .ok (.pop, 1) := by decide +kernel
theorem dX5_readItem_258 : decode cX5_readItem 258 = .ok (.return_, 1) := by decide +kernel
set_option maxRecDepth 20000 in
theorem ggX5_house_X5_begin : GoodIn wsX5_house wsX5_begin := goodIn_r _ [16, 5, 59, 60, 61, 62, 63, 64, 65, 66, 67, 68, 69, 70, 71, 72, 73, 74, 75, 76, 77] (by decide +kernel) (by decide +kernel)
set_option maxRecDepth 20000 in
theorem gX5_house_X5_begin : GoodIn wsX5_house (wsV RX5 42 RX5 yX5_begin wsX5_begin) := goodIn_app (goodIn_of _ (by decide +kernel)) ggX5_house_X5_begin
set_option maxRecDepth 20000 in
theorem ggX5_house_X5_next : GoodIn wsX5_house wsX5_next := goodIn_r _ [20, 1, 21, 22, 4, 23, 24, 25, 26, 15, 27, 11, 28, 29, 30, 31, 32, 33, 34, 59, 60, 61, 62, 63, 64, 65, 66, 67, 68, 69, 70, 71, 72, 73, 74, 75, 76, 77] (by decide +kernel) (by decide +kernel)
set_option maxRecDepth 20000 in
theorem gX5_house_X5_next : GoodIn wsX5_house (wsV RX5 80 RX5 yX5_next wsX5_next) := goodIn_app (goodIn_of _ (by decide +kernel)) ggX5_house_X5_next
set_option maxRecDepth 20000 in
theorem ggX5_house_X5_readItem : GoodIn wsX5_house wsX5_readItem := goodIn_r _ [38, 4, 2, 3, 5, 6, 22, 7, 8, 39, 40, 41, 15, 42, 43, 44, 45, 46, 21, 17, 18, 19, 20, 1, 23, 24, 25, 26, 27, 11, 28, 29, 30, 31, 32, 33, 34, 47, 48, 49, 50, 51, 52, 53, 54, 55, 56, 57, 58, 59, 60, 61, 62, 63, 64, 65, 66, 67, 68, 69, 70, 71, 72, 73, 74, 75, 76, 77] (by decide +kernel) (by decide +kernel)
set_option maxRecDepth 20000 in
theorem gX5_house_X5_readItem : GoodIn wsX5_house (wsV RX5 104 RX5 yX5_readItem wsX5_readItem) := goodIn_app (goodIn_of _ (by decide +kernel)) ggX5_house_X5_readItem
theorem dX5_house_0 : decode cX5_house 0 = .ok (.aload_n 0, 1) := by decide +kernel
theorem dX5_house_1 : decode cX5_house 1 = .ok (.iconst 0, 1) := by decide +kernel
theorem dX5_house_2 : decode cX5_house 2 = .ok (.putfield 56, 3) := by decide +kernel
theorem dX5_house_5 : decode cX5_house 5 = .ok (.aload_n 0, 1) := by decide +kernel
theorem dX5_house_6 : decode cX5_house 6 = .ok (.bipush (-9), 2) := by decide +kernel
theorem dX5_house_8 : decode cX5_house 8 = .ok (.putfield 77, 3) := by decide +kernel
theorem dX5_house_11 : decode cX5_house 11 = .ok (.aload_n 0, 1) := by decide +kernel
theorem dX5_house_12 : decode cX5_house 12 = .ok (.iconst 0, 1) := by decide +kernel
theorem dX5_house_13 : decode cX5_house 13 = .ok (.putfield 91, 3) := by decide +kernel
theorem dX5_house_16 : decode cX5_house 16 = .ok (.aload_n 0, 1) := by decide +kernel
theorem dX5_house_17 : decode cX5_house 17 = .ok (.bipush 8, 2) := by decide +kernel
theorem dX5_house_19 : decode cX5_house 19 = .ok (.invokevirtual 42, 3) := by decide +kernel
theorem dX5_house_22 : decode cX5_house 22 = .ok (.iconst 0, 1) := by decide +kernel
theorem dX5_house_23 : decode cX5_house 23 = .ok (.istore_n 1, 1) := by decide +kernel
theorem dX5_house_24 : decode cX5_house 24 = .ok (.aload_n 0, 1) := by decide +kernel
theorem dX5_house_25 : decode cX5_house 25 = .ok (.invokevirtual 80, 3) := by decide +kernel
theorem dX5_house_28 : decode cX5_house 28 = .ok (.aload_n 0, 1) := by decide +kernel
theorem dX5_house_29 : decode cX5_house 29 = .ok (.getfield 77, 3) := by decide +kernel
theorem dX5_house_32 : decode cX5_house 32 = .ok (.bipush (-9), 2) := by decide +kernel
theorem dX5_house_34 : decode cX5_house 34 = .ok (.if_icmp .ne 22, 3) := by decide +kernel
theorem dX5_house_37 : decode cX5_house 37 = .ok (.aload_n 0, 1) := by decide +kernel
theorem dX5_house_38 : decode cX5_house 38 = .ok (.getfield 69, 3) := by decide +kernel
theorem dX5_house_41 : decode cX5_house 41 = .ok (.bipush 11, 2) := by decide +kernel
theorem dX5_house_43 : decode cX5_house 43 = .ok (.if_icmp .eq 13, 3) := by decide +kernel
theorem dX5_house_46 : decode cX5_house 46 = .ok (.aload_n 0, 1) := by decide +kernel
theorem dX5_house_47 : decode cX5_house 47 = .ok (.invokevirtual 104, 3) := by decide +kernel
theorem dX5_house_50 : decode cX5_house 50 = .ok (.iinc 1 1, 3) := by decide +kernel
theorem dX5_house_53 : decode cX5_house 53 = .ok (.goto (-25), 3) := by decide +kernel
theorem dX5_house_56 : decode cX5_house 56 = .ok (.aload_n 0, 1) := by decide +kernel
theorem dX5_house_57 : decode cX5_house 57 = .ok (.getfield 77, 3) := by decide +kernel
theorem dX5_house_60 : decode cX5_house 60 = .ok (.bipush (-9), 2) := by decide +kernel
theorem dX5_house_62 : decode cX5_house 62 = .ok (.if_icmp .eq 11, 3) := by decide +kernel
theorem dX5_house_65 : decode cX5_house 65 = .ok (.bipush (-10), 2) := by decide +kernel
theorem dX5_house_67 : decode cX5_house 67 = .ok (.aload_n 0, 1) := by decide +kernel
theorem dX5_house_68 : decode cX5_house 68 = .ok (.getfield 77, 3) := by decide +kernel
theorem dX5_house_71 : decode cX5_house 71 = .ok (.isub, 1) := by decide +kernel
theorem dX5_house_72 : decode cX5_house 72 = .ok (.ireturn, 1) := by decide +kernel
theorem dX5_house_73 : decode cX5_house 73 = .ok (.iconst 0, 1) := by decide +kernel
theorem dX5_house_74 : decode cX5_house 74 = .ok (.istore_n 2, 1) := by decide +kernel
theorem dX5_house_75 : decode cX5_house 75 = .ok (.iload_n 2, 1) := by decide +kernel
theorem dX5_house_76 : decode cX5_house 76 = .ok (.bipush 8, 2) := by decide +kernel
theorem dX5_house_78 : decode cX5_house 78 = .ok (.if_icmp .ge 24, 3) := by decide +kernel
theorem dX5_house_81 : decode cX5_house 81 = .ok (.aload_n 0, 1) := by decide +kernel
theorem dX5_house_82 : decode cX5_house 82 = .ok (.getfield 13, 3) := by decide +kernel
theorem dX5_house_85 : decode cX5_house 85 = .ok (.iload_n 2, 1) := by decide +kernel
theorem dX5_house_86 : decode cX5_house 86 = .ok (.aload_n 0, 1) := by decide +kernel
theorem dX5_house_87 : decode cX5_house 87 = .ok (.getfield 13, 3) := by decide +kernel
theorem dX5_house_90 : decode cX5_house 90 = .ok (.bipush 8, 2) := by decide +kernel
theorem dX5_house_92 : decode cX5_house 92 = .ok (.iload_n 2, 1) := by decide +kernel
theorem dX5_house_93 : decode cX5_house 93 = .ok (.iadd, 1) := by decide +kernel
theorem dX5_house_94 : decode cX5_house 94 = .ok (.iaload, 1) := by decide +kernel
theorem dX5_house_95 : decode cX5_house 95 = .ok (.iastore, 1) := by decide +kernel
theorem dX5_house_96 : decode cX5_house 96 = .ok (.iinc 2 1, 3) := by decide +kernel
theorem dX5_house_99 : decode cX5_house 99 = .ok (.goto (-24), 3) := by decide +kernel
theorem dX5_house_102 : decode cX5_house 102 = .ok (.iconst 0, 1) := by decide +kernel
theorem dX5_house_103 : decode cX5_house 103 = .ok (.istore_n 2, 1) := by decide +kernel
theorem dX5_house_104 : decode cX5_house 104 = .ok (.iload_n 2, 1) := by decide +kernel
theorem dX5_house_105 : decode cX5_house 105 = .ok (.iconst 4, 1) := by decide +kernel
theorem dX5_house_106 : decode cX5_house 106 = .ok (.if_icmp .ge 37, 3) := by decide +kernel
theorem dX5_house_109 : decode cX5_house 109 = .ok (.aload_n 0, 1) := by decide +kernel
theorem dX5_house_110 : decode cX5_house 110 = .ok (.getfield 17, 3) := by decide +kernel
theorem dX5_house_113 : decode cX5_house 113 = .ok (.iload_n 2, 1) := by decide +kernel
theorem dX5_house_114 : decode cX5_house 114 = .ok (.aload_n 0, 1) := by decide +kernel
theorem dX5_house_115 : decode cX5_house 115 = .ok (.getfield 17, 3) := by decide +kernel
theorem dX5_house_118 : decode cX5_house 118 = .ok (.iconst 4, 1) := by decide +kernel
theorem dX5_house_119 : decode cX5_house 119 = .ok (.iload_n 2, 1) := by decide +kernel
theorem dX5_house_120 : decode cX5_house 120 = .ok (.iadd, 1) := by decide +kernel
theorem dX5_house_121 : decode cX5_house 121 = .ok (.iaload, 1) := by decide +kernel
theorem dX5_house_122 : decode cX5_house 122 = .ok (.iastore, 1) := by decide +kernel
theorem dX5_house_123 : decode cX5_house 123 = .ok (.aload_n 0, 1) := by decide +kernel
theorem dX5_house_124 : decode cX5_house 124 = .ok (.getfield 20, 3) := by decide +kernel
theorem dX5_house_127 : decode cX5_house 127 = .ok (.iload_n 2, 1) := by decide +kernel
theorem dX5_house_128 : decode cX5_house 128 = .ok (.aload_n 0, 1) := by decide +kernel
theorem dX5_house_129 : decode cX5_house 129 = .ok (.getfield 20, 3) := by decide +kernel
theorem dX5_house_132 : decode cX5_house 132 = .ok (.iconst 4, 1) := by decide +kernel
theorem dX5_house_133 : decode cX5_house 133 = .ok (.iload_n 2, 1) := by decide +kernel
theorem dX5_house_134 : decode cX5_house 134 = .ok (.iadd, 1) := by decide +kernel
theorem dX5_house_135 : decode cX5_house 135 = .ok (.iaload, 1) := by decide +kernel
theorem dX5_house_136 : decode cX5_house 136 = .ok (.iastore, 1) := by decide +kernel
theorem dX5_house_137 : decode cX5_house 137 = .ok (.iinc 2 1, 3) := by decide +kernel
theorem dX5_house_140 : decode cX5_house 140 = .ok (.goto (-36), 3) := by decide +kernel
theorem dX5_house_143 : decode cX5_house 143 = .ok (.iconst 0, 1) := by decide +kernel
theorem dX5_house_144 : decode cX5_house 144 = .ok (.istore_n 2, 1) := by decide +kernel
theorem dX5_house_145 : decode cX5_house 145 = .ok (.iload_n 2, 1) := by decide +kernel
theorem dX5_house_146 : decode cX5_house 146 = .ok (.iconst 2, 1) := by decide +kernel
theorem dX5_house_147 : decode cX5_house 147 = .ok (.if_icmp .ge 23, 3) := by decide +kernel
theorem dX5_house_150 : decode cX5_house 150 = .ok (.aload_n 0, 1) := by decide +kernel
theorem dX5_house_151 : decode cX5_house 151 = .ok (.getfield 23, 3) := by decide +kernel
theorem dX5_house_154 : decode cX5_house 154 = .ok (.iload_n 2, 1) := by decide +kernel
theorem dX5_house_155 : decode cX5_house 155 = .ok (.aload_n 0, 1) := by decide +kernel
theorem dX5_house_156 : decode cX5_house 156 = .ok (.getfield 23, 3) := by decide +kernel
theorem dX5_house_159 : decode cX5_house 159 = .ok (.iconst 2, 1) := by decide +kernel
theorem dX5_house_160 : decode cX5_house 160 = .ok (.iload_n 2, 1) := by decide +kernel
theorem dX5_house_161 : decode cX5_house 161 = .ok (.iadd, 1) := by decide +kernel
theorem dX5_house_162 : decode cX5_house 162 = .ok (.iaload, 1) := by decide +kernel
theorem dX5_house_163 : decode cX5_house 163 = .ok (.iastore, 1) := by decide +kernel
theorem dX5_house_164 : decode cX5_house 164 = .ok (.iinc 2 1, 3) := by decide +kernel
theorem dX5_house_167 : decode cX5_house 167 = .ok (.goto (-22), 3) := by decide +kernel
theorem dX5_house_170 : decode cX5_house 170 = .ok (.iconst 0, 1) := by decide +kernel
theorem dX5_house_171 : decode cX5_house 171 = .ok (.istore_n 2, 1) := by decide +kernel
theorem dX5_house_172 : decode cX5_house 172 = .ok (.iconst 0, 1) := by decide +kernel
theorem dX5_house_173 : decode cX5_house 173 = .ok (.istore_n 3, 1) := by decide +kernel
theorem dX5_house_174 : decode cX5_house 174 = .ok (.iload_n 3, 1) := by decide +kernel
theorem dX5_house_175 : decode cX5_house 175 = .ok (.aload_n 0, 1) := by decide +kernel
theorem dX5_house_176 : decode cX5_house 176 = .ok (.getfield 13, 3) := by decide +kernel
theorem dX5_house_179 : decode cX5_house 179 = .ok (.iconst 0, 1) := by decide +kernel
theorem dX5_house_180 : decode cX5_house 180 = .ok (.iaload, 1) := by decide +kernel
theorem dX5_house_181 : decode cX5_house 181 = .ok (.if_icmp .ge 21, 3) := by decide +kernel
theorem dX5_house_184 : decode cX5_house 184 = .ok (.bipush 9, 2) := by decide +kernel
theorem dX5_house_186 : decode cX5_house 186 = .ok (.iload_n 2, 1) := by decide +kernel
theorem dX5_house_187 : decode cX5_house 187 = .ok (.imul, 1) := by decide +kernel
theorem dX5_house_188 : decode cX5_house 188 = .ok (.aload_n 0, 1) := by decide +kernel
theorem dX5_house_189 : decode cX5_house 189 = .ok (.getfield 20, 3) := by decide +kernel
theorem dX5_house_192 : decode cX5_house 192 = .ok (.iload_n 3, 1) := by decide +kernel
theorem dX5_house_193 : decode cX5_house 193 = .ok (.iaload, 1) := by decide +kernel
theorem dX5_house_194 : decode cX5_house 194 = .ok (.iadd, 1) := by decide +kernel
theorem dX5_house_195 : decode cX5_house 195 = .ok (.istore_n 2, 1) := by decide +kernel
theorem dX5_house_196 : decode cX5_house 196 = .ok (.iinc 3 1, 3) := by decide +kernel
theorem dX5_house_199 : decode cX5_house 199 = .ok (.goto (-25), 3) := by decide +kernel
theorem dX5_house_202 : decode cX5_house 202 = .ok (.aload_n 0, 1) := by decide +kernel
theorem dX5_house_203 : decode cX5_house 203 = .ok (.getfield 26, 3) := by decide +kernel
theorem dX5_house_206 : decode cX5_house 206 = .ok (.iconst 0, 1) := by decide +kernel
theorem dX5_house_207 : decode cX5_house 207 = .ok (.iload_n 2, 1) := by decide +kernel
theorem dX5_house_208 : decode cX5_house 208 = .ok (.iastore, 1) := by decide +kernel
theorem dX5_house_209 : decode cX5_house 209 = .ok (.aload_n 0, 1) := by decide +kernel
theorem dX5_house_210 : decode cX5_house 210 = .ok (.getfield 26, 3) := by decide +kernel
theorem dX5_house_213 : decode cX5_house 213 = .ok (.iconst 1, 1) := by decide +kernel
theorem dX5_house_214 : decode cX5_house 214 = .ok (.iconst 0, 1) := by decide +kernel
theorem dX5_house_215 : decode cX5_house 215 = .ok (.iastore, 1) := by decide +kernel
theorem dX5_house_216 : decode cX5_house 216 = .ok (.aload_n 0, 1) := by decide +kernel
theorem dX5_house_217 : decode cX5_house 217 = .ok (.getfield 26, 3) := by decide +kernel
theorem dX5_house_220 : decode cX5_house 220 = .ok (.iconst 2, 1) := by decide +kernel
theorem dX5_house_221 : decode cX5_house 221 = .ok (.iconst 0, 1) := by decide +kernel
theorem dX5_house_222 : decode cX5_house 222 = .ok (.iastore, 1) := by decide +kernel
theorem dX5_house_223 : decode cX5_house 223 = .ok (.aload_n 0, 1) := by decide +kernel
theorem dX5_house_224 : decode cX5_house 224 = .ok (.getfield 26, 3) := by decide +kernel
theorem dX5_house_227 : decode cX5_house 227 = .ok (.iconst 3, 1) := by decide +kernel
theorem dX5_house_228 : decode cX5_house 228 = .ok (.iconst 0, 1) := by decide +kernel
theorem dX5_house_229 : decode cX5_house 229 = .ok (.iastore, 1) := by decide +kernel
theorem dX5_house_230 : decode cX5_house 230 = .ok (.aload_n 0, 1) := by decide +kernel
theorem dX5_house_231 : decode cX5_house 231 = .ok (.getfield 26, 3) := by decide +kernel
theorem dX5_house_234 : decode cX5_house 234 = .ok (.iconst 4, 1) := by decide +kernel
theorem dX5_house_235 : decode cX5_house 235 = .ok (.iconst 0, 1) := by decide +kernel
theorem dX5_house_236 : decode cX5_house 236 = .ok (.iastore, 1) := by decide +kernel
theorem dX5_house_237 : decode cX5_house 237 = .ok (.aload_n 0, 1) := by decide +kernel
theorem dX5_house_238 : decode cX5_house 238 = .ok (.getfield 29, 3) := by decide +kernel
theorem dX5_house_241 : decode cX5_house 241 = .ok (.iconst 0, 1) := by decide +kernel
theorem dX5_house_242 : decode cX5_house 242 = .ok (.iconst 0, 1) := by decide +kernel
theorem dX5_house_243 : decode cX5_house 243 = .ok (.bastore, 1) := by decide +kernel
theorem dX5_house_244 : decode cX5_house 244 = .ok (.aload_n 0, 1) := by decide +kernel
theorem dX5_house_245 : decode cX5_house 245 = .ok (.getfield 29, 3) := by decide +kernel
theorem dX5_house_248 : decode cX5_house 248 = .ok (.iconst 1, 1) := by decide +kernel
theorem dX5_house_249 : decode cX5_house 249 = .ok (.iconst 0, 1) := by decide +kernel
theorem dX5_house_250 : decode cX5_house 250 = .ok (.bastore, 1) := by decide +kernel
theorem dX5_house_251 : decode cX5_house 251 = .ok (.aload_n 0, 1) := by decide +kernel
theorem dX5_house_252 : decode cX5_house 252 = .ok (.iconst 0, 1) := by decide +kernel
theorem dX5_house_253 : decode cX5_house 253 = .ok (.putfield 50, 3) := by decide +kernel
theorem dX5_house_256 : decode cX5_house 256 = .ok (.iload_n 1, 1) := by decide +kernel
theorem dX5_house_257 : decode cX5_house 257 = .ok (.ireturn, 1) := by decide +kernel
set_option maxRecDepth 20000 in
theorem ggX5_isPanel_X5_in : GoodIn wsX5_isPanel wsX5_in := goodIn_r _ [5] (by decide +kernel) (by decide +kernel)
set_option maxRecDepth 20000 in
theorem gX5_isPanel_X5_in : GoodIn wsX5_isPanel (va_wsS RX5 46 yX5_in wsX5_in) := goodIn_app (goodIn_of _ (by decide +kernel)) ggX5_isPanel_X5_in
theorem dX5_isPanel_0 : decode cX5_isPanel 0 = .ok (.iload_n 1, 1) := by decide +kernel
theorem dX5_isPanel_1 : decode cX5_isPanel 1 = .ok (.iconst 0, 1) := by decide +kernel
theorem dX5_isPanel_2 : decode cX5_isPanel 2 = .ok (.aload_n 0, 1) := by decide +kernel
theorem dX5_isPanel_3 : decode cX5_isPanel 3 = .ok (.getfield 13, 3) := by decide +kernel
theorem dX5_isPanel_6 : decode cX5_isPanel 6 = .ok (.iconst 0, 1) := by decide +kernel
theorem dX5_isPanel_7 : decode cX5_isPanel 7 = .ok (.iaload, 1) := by decide +kernel
theorem dX5_isPanel_8 : decode cX5_isPanel 8 = .ok (.iconst 1, 1) := by decide +kernel
theorem dX5_isPanel_9 : decode cX5_isPanel 9 = .ok (.isub, 1) := by decide +kernel
theorem dX5_isPanel_10 : decode cX5_isPanel 10 = .ok (.invokestatic 46, 3) := by decide +kernel
theorem dX5_isPanel_13 : decode cX5_isPanel 13 = .ok (.ireturn, 1) := by decide +kernel
theorem dX5_power_0 : decode cX5_power 0 = .ok (.iconst 1, 1) := by decide +kernel
theorem dX5_power_1 : decode cX5_power 1 = .ok (.istore_n 1, 1) := by decide +kernel
theorem dX5_power_2 : decode cX5_power 2 = .ok (.iconst 0, 1) := by decide +kernel
theorem dX5_power_3 : decode cX5_power 3 = .ok (.istore_n 2, 1) := by decide +kernel
theorem dX5_power_4 : decode cX5_power 4 = .ok (.iload_n 2, 1) := by decide +kernel
theorem dX5_power_5 : decode cX5_power 5 = .ok (.iload_n 0, 1) := by decide +kernel
theorem dX5_power_6 : decode cX5_power 6 = .ok (.if_icmp .ge 14, 3) := by decide +kernel
theorem dX5_power_9 : decode cX5_power 9 = .ok (.iload_n 1, 1) := by decide +kernel
theorem dX5_power_10 : decode cX5_power 10 = .ok (.bipush 9, 2) := by decide +kernel
theorem dX5_power_12 : decode cX5_power 12 = .ok (.imul, 1) := by decide +kernel
theorem dX5_power_13 : decode cX5_power 13 = .ok (.istore_n 1, 1) := by decide +kernel
theorem dX5_power_14 : decode cX5_power 14 = .ok (.iinc 2 1, 3) := by decide +kernel
theorem dX5_power_17 : decode cX5_power 17 = .ok (.goto (-13), 3) := by decide +kernel
theorem dX5_power_20 : decode cX5_power 20 = .ok (.iload_n 1, 1) := by decide +kernel
theorem dX5_power_21 : decode cX5_power 21 = .ok (.ireturn, 1) := by decide +kernel
set_option maxRecDepth 20000 in
theorem ggX5_houses_X5_power : GoodIn wsX5_houses wsX5_power := goodIn_r _ [5] (by decide +kernel) (by decide +kernel)
set_option maxRecDepth 20000 in
theorem gX5_houses_X5_power : GoodIn wsX5_houses (va_wsS RX5 107 yX5_power wsX5_power) := goodIn_app (goodIn_of _ (by decide +kernel)) ggX5_houses_X5_power
theorem dX5_houses_0 : decode cX5_houses 0 = .ok (.aload_n 0, 1) := by decide +kernel
theorem dX5_houses_1 : decode cX5_houses 1 = .ok (.getfield 13, 3) := by decide +kernel
theorem dX5_houses_4 : decode cX5_houses 4 = .ok (.iconst 0, 1) := by decide +kernel
theorem dX5_houses_5 : decode cX5_houses 5 = .ok (.iaload, 1) := by decide +kernel
theorem dX5_houses_6 : decode cX5_houses 6 = .ok (.invokestatic 107, 3) := by decide +kernel
theorem dX5_houses_9 : decode cX5_houses 9 = .ok (.ireturn, 1) := by decide +kernel
set_option maxRecDepth 20000 in
theorem ggX5_slotIn_X5_power : GoodIn wsX5_slotIn wsX5_power := goodIn_r _ [5] (by decide +kernel) (by decide +kernel)
set_option maxRecDepth 20000 in
theorem gX5_slotIn_X5_power : GoodIn wsX5_slotIn (va_wsS RX5 107 yX5_power wsX5_power) := goodIn_app (goodIn_of _ (by decide +kernel)) ggX5_slotIn_X5_power
theorem dX5_slotIn_0 : decode cX5_slotIn 0 = .ok (.iload_n 1, 1) := by decide +kernel
theorem dX5_slotIn_1 : decode cX5_slotIn 1 = .ok (.aload_n 0, 1) := by decide +kernel
theorem dX5_slotIn_2 : decode cX5_slotIn 2 = .ok (.getfield 13, 3) := by decide +kernel
theorem dX5_slotIn_5 : decode cX5_slotIn 5 = .ok (.iconst 0, 1) := by decide +kernel
theorem dX5_slotIn_6 : decode cX5_slotIn 6 = .ok (.iaload, 1) := by decide +kernel
theorem dX5_slotIn_7 : decode cX5_slotIn 7 = .ok (.iconst 1, 1) := by decide +kernel
theorem dX5_slotIn_8 : decode cX5_slotIn 8 = .ok (.isub, 1) := by decide +kernel
theorem dX5_slotIn_9 : decode cX5_slotIn 9 = .ok (.iload_n 2, 1) := by decide +kernel
theorem dX5_slotIn_10 : decode cX5_slotIn 10 = .ok (.isub, 1) := by decide +kernel
theorem dX5_slotIn_11 : decode cX5_slotIn 11 = .ok (.invokestatic 107, 3) := by decide +kernel
theorem dX5_slotIn_14 : decode cX5_slotIn 14 = .ok (.idiv, 1) := by decide +kernel
theorem dX5_slotIn_15 : decode cX5_slotIn 15 = .ok (.bipush 9, 2) := by decide +kernel
theorem dX5_slotIn_17 : decode cX5_slotIn 17 = .ok (.irem, 1) := by decide +kernel
theorem dX5_slotIn_18 : decode cX5_slotIn 18 = .ok (.ireturn, 1) := by decide +kernel
set_option maxRecDepth 20000 in
theorem ggX5_with_X5_slotIn : GoodIn wsX5_with wsX5_slotIn := goodIn_r _ [6, 1, 7, 8, 5, 9, 10, 11, 12, 13, 14, 15, 16, 17, 18, 19, 20, 21, 22, 23, 24, 25, 26, 27, 28] (by decide +kernel) (by decide +kernel)
set_option maxRecDepth 20000 in
theorem gX5_with_X5_slotIn : GoodIn wsX5_with (wsV RX5 110 RX5 yX5_slotIn wsX5_slotIn) := goodIn_app (goodIn_of _ (by decide +kernel)) ggX5_with_X5_slotIn
set_option maxRecDepth 20000 in
theorem ggX5_with_X5_power : GoodIn wsX5_with wsX5_power := goodIn_r _ [9] (by decide +kernel) (by decide +kernel)
set_option maxRecDepth 20000 in
theorem gX5_with_X5_power : GoodIn wsX5_with (va_wsS RX5 107 yX5_power wsX5_power) := goodIn_app (goodIn_of _ (by decide +kernel)) ggX5_with_X5_power
theorem dX5_with_0 : decode cX5_with 0 = .ok (.iload_n 1, 1) := by decide +kernel
theorem dX5_with_1 : decode cX5_with 1 = .ok (.iload_n 3, 1) := by decide +kernel
theorem dX5_with_2 : decode cX5_with 2 = .ok (.aload_n 0, 1) := by decide +kernel
theorem dX5_with_3 : decode cX5_with 3 = .ok (.iload_n 1, 1) := by decide +kernel
theorem dX5_with_4 : decode cX5_with 4 = .ok (.iload_n 2, 1) := by decide +kernel
theorem dX5_with_5 : decode cX5_with 5 = .ok (.invokevirtual 110, 3) := by decide +kernel
theorem dX5_with_8 : decode cX5_with 8 = .ok (.isub, 1) := by decide +kernel
theorem dX5_with_9 : decode cX5_with 9 = .ok (.aload_n 0, 1) := by decide +kernel
theorem dX5_with_10 : decode cX5_with 10 = .ok (.getfield 13, 3) := by decide +kernel
theorem dX5_with_13 : decode cX5_with 13 = .ok (.iconst 0, 1) := by decide +kernel
theorem dX5_with_14 : decode cX5_with 14 = .ok (.iaload, 1) := by decide +kernel
theorem dX5_with_15 : decode cX5_with 15 = .ok (.iconst 1, 1) := by decide +kernel
theorem dX5_with_16 : decode cX5_with 16 = .ok (.isub, 1) := by decide +kernel
theorem dX5_with_17 : decode cX5_with 17 = .ok (.iload_n 2, 1) := by decide +kernel
theorem dX5_with_18 : decode cX5_with 18 = .ok (.isub, 1) := by decide +kernel
theorem dX5_with_19 : decode cX5_with 19 = .ok (.invokestatic 107, 3) := by decide +kernel
theorem dX5_with_22 : decode cX5_with 22 = .ok (.imul, 1) := by decide +kernel
theorem dX5_with_23 : decode cX5_with 23 = .ok (.iadd, 1) := by decide +kernel
theorem dX5_with_24 : decode cX5_with 24 = .ok (.ireturn, 1) := by decide +kernel
set_option maxRecDepth 20000 in
theorem ggX5_panelAt_X5_slotIn : GoodIn wsX5_panelAt wsX5_slotIn := goodIn_r _ [6, 1, 7, 8, 5, 9, 10, 11, 12, 13, 14, 15, 16, 17, 18, 19, 20, 21, 22, 23, 24, 25, 26, 27, 28] (by decide +kernel) (by decide +kernel)
set_option maxRecDepth 20000 in
theorem gX5_panelAt_X5_slotIn : GoodIn wsX5_panelAt (wsV RX5 110 RX5 yX5_slotIn wsX5_slotIn) := goodIn_app (goodIn_of _ (by decide +kernel)) ggX5_panelAt_X5_slotIn
theorem dX5_panelAt_0 : decode cX5_panelAt 0 = .ok (.iconst 0, 1) := by decide +kernel
theorem dX5_panelAt_1 : decode cX5_panelAt 1 = .ok (.istore_n 3, 1) := by decide +kernel
theorem dX5_panelAt_2 : decode cX5_panelAt 2 = .ok (.iload_n 3, 1) := by decide +kernel
theorem dX5_panelAt_3 : decode cX5_panelAt 3 = .ok (.aload_n 0, 1) := by decide +kernel
theorem dX5_panelAt_4 : decode cX5_panelAt 4 = .ok (.getfield 13, 3) := by decide +kernel
theorem dX5_panelAt_7 : decode cX5_panelAt 7 = .ok (.iconst 0, 1) := by decide +kernel
theorem dX5_panelAt_8 : decode cX5_panelAt 8 = .ok (.iaload, 1) := by decide +kernel
theorem dX5_panelAt_9 : decode cX5_panelAt 9 = .ok (.if_icmp .ge 21, 3) := by decide +kernel
theorem dX5_panelAt_12 : decode cX5_panelAt 12 = .ok (.aload_n 0, 1) := by decide +kernel
theorem dX5_panelAt_13 : decode cX5_panelAt 13 = .ok (.iload_n 1, 1) := by decide +kernel
theorem dX5_panelAt_14 : decode cX5_panelAt 14 = .ok (.iload_n 3, 1) := by decide +kernel
theorem dX5_panelAt_15 : decode cX5_panelAt 15 = .ok (.invokevirtual 110, 3) := by decide +kernel
theorem dX5_panelAt_18 : decode cX5_panelAt 18 = .ok (.iload_n 2, 1) := by decide +kernel
theorem dX5_panelAt_19 : decode cX5_panelAt 19 = .ok (.if_icmp .ne 5, 3) := by decide +kernel
theorem dX5_panelAt_22 : decode cX5_panelAt 22 = .ok (.iload_n 3, 1) := by decide +kernel
theorem dX5_panelAt_23 : decode cX5_panelAt 23 = .ok (.ireturn, 1) := by decide +kernel
theorem dX5_panelAt_24 : decode cX5_panelAt 24 = .ok (.iinc 3 1, 3) := by decide +kernel
theorem dX5_panelAt_27 : decode cX5_panelAt 27 = .ok (.goto (-25), 3) := by decide +kernel
theorem dX5_panelAt_30 : decode cX5_panelAt 30 = .ok (.bipush (-9), 2) := by decide +kernel
theorem dX5_panelAt_32 : decode cX5_panelAt 32 = .ok (.ireturn, 1) := by decide +kernel
set_option maxRecDepth 20000 in
theorem ggX5_lying_X5_slotIn : GoodIn wsX5_lying wsX5_slotIn := goodIn_r _ [6, 1, 7, 8, 5, 9, 10, 11, 12, 13, 14, 15, 16, 17, 18, 19, 20, 21, 22, 23, 24, 25, 26, 27, 28] (by decide +kernel) (by decide +kernel)
set_option maxRecDepth 20000 in
theorem gX5_lying_X5_slotIn : GoodIn wsX5_lying (wsV RX5 110 RX5 yX5_slotIn wsX5_slotIn) := goodIn_app (goodIn_of _ (by decide +kernel)) ggX5_lying_X5_slotIn
theorem dX5_lying_0 : decode cX5_lying 0 = .ok (.iconst 0, 1) := by decide +kernel
theorem dX5_lying_1 : decode cX5_lying 1 = .ok (.istore_n 2, 1) := by decide +kernel
theorem dX5_lying_2 : decode cX5_lying 2 = .ok (.iconst 0, 1) := by decide +kernel
theorem dX5_lying_3 : decode cX5_lying 3 = .ok (.istore_n 3, 1) := by decide +kernel
theorem dX5_lying_4 : decode cX5_lying 4 = .ok (.iload_n 3, 1) := by decide +kernel
theorem dX5_lying_5 : decode cX5_lying 5 = .ok (.aload_n 0, 1) := by decide +kernel
theorem dX5_lying_6 : decode cX5_lying 6 = .ok (.getfield 13, 3) := by decide +kernel
theorem dX5_lying_9 : decode cX5_lying 9 = .ok (.iconst 0, 1) := by decide +kernel
theorem dX5_lying_10 : decode cX5_lying 10 = .ok (.iaload, 1) := by decide +kernel
theorem dX5_lying_11 : decode cX5_lying 11 = .ok (.if_icmp .ge 28, 3) := by decide +kernel
theorem dX5_lying_14 : decode cX5_lying 14 = .ok (.iload_n 2, 1) := by decide +kernel
theorem dX5_lying_15 : decode cX5_lying 15 = .ok (.aload_n 0, 1) := by decide +kernel
theorem dX5_lying_16 : decode cX5_lying 16 = .ok (.iload_n 1, 1) := by decide +kernel
theorem dX5_lying_17 : decode cX5_lying 17 = .ok (.iload_n 3, 1) := by decide +kernel
theorem dX5_lying_18 : decode cX5_lying 18 = .ok (.invokevirtual 110, 3) := by decide +kernel
theorem dX5_lying_21 : decode cX5_lying 21 = .ok (.bipush 8, 2) := by decide +kernel
theorem dX5_lying_23 : decode cX5_lying 23 = .ok (.if_icmp .ne 7, 3) := by decide +kernel
theorem dX5_lying_26 : decode cX5_lying 26 = .ok (.iconst 1, 1) := by decide +kernel
theorem dX5_lying_27 : decode cX5_lying 27 = .ok (.goto 4, 3) := by decide +kernel
theorem dX5_lying_30 : decode cX5_lying 30 = .ok (.iconst 0, 1) := by decide +kernel
theorem dX5_lying_31 : decode cX5_lying 31 = .ok (.iadd, 1) := by decide +kernel
theorem dX5_lying_32 : decode cX5_lying 32 = .ok (.istore_n 2, 1) := by decide +kernel
theorem dX5_lying_33 : decode cX5_lying 33 = .ok (.iinc 3 1, 3) := by decide +kernel
theorem dX5_lying_36 : decode cX5_lying 36 = .ok (.goto (-32), 3) := by decide +kernel
theorem dX5_lying_39 : decode cX5_lying 39 = .ok (.iload_n 2, 1) := by decide +kernel
theorem dX5_lying_40 : decode cX5_lying 40 = .ok (.ireturn, 1) := by decide +kernel
set_option maxRecDepth 20000 in
theorem ggX5_isBorne_X5_slotIn : GoodIn wsX5_isBorne wsX5_slotIn := goodIn_r _ [8, 1, 9, 10, 7, 11, 12, 13, 14, 15, 16, 17, 18, 19, 20, 21, 22, 23, 24, 25, 26, 27, 28, 29, 30] (by decide +kernel) (by decide +kernel)
set_option maxRecDepth 20000 in
theorem gX5_isBorne_X5_slotIn : GoodIn wsX5_isBorne (wsV RX5 110 RX5 yX5_slotIn wsX5_slotIn) := goodIn_app (goodIn_of _ (by decide +kernel)) ggX5_isBorne_X5_slotIn
theorem dX5_isBorne_0 : decode cX5_isBorne 0 = .ok (.iconst 0, 1) := by decide +kernel
theorem dX5_isBorne_1 : decode cX5_isBorne 1 = .ok (.istore_n 3, 1) := by decide +kernel
theorem dX5_isBorne_2 : decode cX5_isBorne 2 = .ok (.iconst 0, 1) := by decide +kernel
theorem dX5_isBorne_3 : decode cX5_isBorne 3 = .ok (.istore 4, 2) := by decide +kernel
theorem dX5_isBorne_5 : decode cX5_isBorne 5 = .ok (.iload 4, 2) := by decide +kernel
theorem dX5_isBorne_7 : decode cX5_isBorne 7 = .ok (.aload_n 0, 1) := by decide +kernel
theorem dX5_isBorne_8 : decode cX5_isBorne 8 = .ok (.getfield 13, 3) := by decide +kernel
theorem dX5_isBorne_11 : decode cX5_isBorne 11 = .ok (.iconst 0, 1) := by decide +kernel
theorem dX5_isBorne_12 : decode cX5_isBorne 12 = .ok (.iaload, 1) := by decide +kernel
theorem dX5_isBorne_13 : decode cX5_isBorne 13 = .ok (.if_icmp .ge 60, 3) := by decide +kernel
theorem dX5_isBorne_16 : decode cX5_isBorne 16 = .ok (.aload_n 0, 1) := by decide +kernel
theorem dX5_isBorne_17 : decode cX5_isBorne 17 = .ok (.iload_n 1, 1) := by decide +kernel
theorem dX5_isBorne_18 : decode cX5_isBorne 18 = .ok (.iload 4, 2) := by decide +kernel
theorem dX5_isBorne_20 : decode cX5_isBorne 20 = .ok (.invokevirtual 110, 3) := by decide +kernel
theorem dX5_isBorne_23 : decode cX5_isBorne 23 = .ok (.istore 5, 2) := by decide +kernel
theorem dX5_isBorne_25 : decode cX5_isBorne 25 = .ok (.iload_n 3, 1) := by decide +kernel
theorem dX5_isBorne_26 : decode cX5_isBorne 26 = .ok (.ifCond .ne 35, 3) := by decide +kernel
theorem dX5_isBorne_29 : decode cX5_isBorne 29 = .ok (.aload_n 0, 1) := by decide +kernel
theorem dX5_isBorne_30 : decode cX5_isBorne 30 = .ok (.getfield 17, 3) := by decide +kernel
theorem dX5_isBorne_33 : decode cX5_isBorne 33 = .ok (.iload 4, 2) := by decide +kernel
theorem dX5_isBorne_35 : decode cX5_isBorne 35 = .ok (.iaload, 1) := by decide +kernel
theorem dX5_isBorne_36 : decode cX5_isBorne 36 = .ok (.ifCond .ne 29, 3) := by decide +kernel
theorem dX5_isBorne_39 : decode cX5_isBorne 39 = .ok (.iload 5, 2) := by decide +kernel
theorem dX5_isBorne_41 : decode cX5_isBorne 41 = .ok (.bipush 8, 2) := by decide +kernel
theorem dX5_isBorne_43 : decode cX5_isBorne 43 = .ok (.if_icmp .ge 22, 3) := by decide +kernel
theorem dX5_isBorne_46 : decode cX5_isBorne 46 = .ok (.aload_n 0, 1) := by decide +kernel
theorem dX5_isBorne_47 : decode cX5_isBorne 47 = .ok (.getfield 23, 3) := by decide +kernel
theorem dX5_isBorne_50 : decode cX5_isBorne 50 = .ok (.iload_n 2, 1) := by decide +kernel
theorem dX5_isBorne_51 : decode cX5_isBorne 51 = .ok (.iaload, 1) := by decide +kernel
theorem dX5_isBorne_52 : decode cX5_isBorne 52 = .ok (.iload 5, 2) := by decide +kernel
theorem dX5_isBorne_54 : decode cX5_isBorne 54 = .ok (.ishr, 1) := by decide +kernel
theorem dX5_isBorne_55 : decode cX5_isBorne 55 = .ok (.iconst 1, 1) := by decide +kernel
theorem dX5_isBorne_56 : decode cX5_isBorne 56 = .ok (.iand, 1) := by decide +kernel
theorem dX5_isBorne_57 : decode cX5_isBorne 57 = .ok (.iconst 1, 1) := by decide +kernel
theorem dX5_isBorne_58 : decode cX5_isBorne 58 = .ok (.if_icmp .ne 7, 3) := by decide +kernel
theorem dX5_isBorne_61 : decode cX5_isBorne 61 = .ok (.iconst 1, 1) := by decide +kernel
theorem dX5_isBorne_62 : decode cX5_isBorne 62 = .ok (.goto 4, 3) := by decide +kernel
theorem dX5_isBorne_65 : decode cX5_isBorne 65 = .ok (.iconst 0, 1) := by decide +kernel
theorem dX5_isBorne_66 : decode cX5_isBorne 66 = .ok (.istore_n 3, 1) := by decide +kernel
theorem dX5_isBorne_67 : decode cX5_isBorne 67 = .ok (.iinc 4 1, 3) := by decide +kernel
theorem dX5_isBorne_70 : decode cX5_isBorne 70 = .ok (.goto (-65), 3) := by decide +kernel
theorem dX5_isBorne_73 : decode cX5_isBorne 73 = .ok (.iload_n 3, 1) := by decide +kernel
theorem dX5_isBorne_74 : decode cX5_isBorne 74 = .ok (.ireturn, 1) := by decide +kernel
set_option maxRecDepth 20000 in
theorem ggX5_isLawful_X5_lying : GoodIn wsX5_isLawful wsX5_lying := goodIn_r _ [6, 1, 7, 8, 9, 5, 10, 11, 12, 13, 20, 21, 22, 23, 24, 25, 26, 27, 28, 29, 30, 31, 32, 33, 34, 35, 36, 37, 38] (by decide +kernel) (by decide +kernel)
set_option maxRecDepth 20000 in
theorem gX5_isLawful_X5_lying : GoodIn wsX5_isLawful (wsV RX5 113 RX5 yX5_lying wsX5_lying) := goodIn_app (goodIn_of _ (by decide +kernel)) ggX5_isLawful_X5_lying
set_option maxRecDepth 20000 in
theorem ggX5_isLawful_X5_slotIn : GoodIn wsX5_isLawful wsX5_slotIn := goodIn_r _ [10, 1, 11, 12, 5, 13, 20, 21, 22, 23, 24, 25, 26, 27, 28, 29, 30, 31, 32, 33, 34, 35, 36, 37, 38] (by decide +kernel) (by decide +kernel)
set_option maxRecDepth 20000 in
theorem gX5_isLawful_X5_slotIn : GoodIn wsX5_isLawful (wsV RX5 110 RX5 yX5_slotIn wsX5_slotIn) := goodIn_app (goodIn_of _ (by decide +kernel)) ggX5_isLawful_X5_slotIn
set_option maxRecDepth 20000 in
theorem ggX5_isLawful_X5_isBorne : GoodIn wsX5_isLawful wsX5_isBorne := goodIn_r _ [17, 1, 18, 19, 7, 8, 9, 5, 10, 11, 12, 13, 20, 21, 22, 23, 24, 25, 26, 27, 28, 29, 30, 31, 32, 33, 34, 35, 36, 37, 38] (by decide +kernel) (by decide +kernel)
set_option maxRecDepth 20000 in
theorem gX5_isLawful_X5_isBorne : GoodIn wsX5_isLawful (wsV RX5 116 RX5 yX5_isBorne wsX5_isBorne) := goodIn_app (goodIn_of _ (by decide +kernel)) ggX5_isLawful_X5_isBorne
theorem dX5_isLawful_0 : decode cX5_isLawful 0 = .ok (.aload_n 0, 1) := by decide +kernel
theorem dX5_isLawful_1 : decode cX5_isLawful 1 = .ok (.iload_n 1, 1) := by decide +kernel
theorem dX5_isLawful_2 : decode cX5_isLawful 2 = .ok (.invokevirtual 113, 3) := by decide +kernel
theorem dX5_isLawful_5 : decode cX5_isLawful 5 = .ok (.aload_n 0, 1) := by decide +kernel
theorem dX5_isLawful_6 : decode cX5_isLawful 6 = .ok (.getfield 13, 3) := by decide +kernel
theorem dX5_isLawful_9 : decode cX5_isLawful 9 = .ok (.bipush 6, 2) := by decide +kernel
theorem dX5_isLawful_11 : decode cX5_isLawful 11 = .ok (.iaload, 1) := by decide +kernel
theorem dX5_isLawful_12 : decode cX5_isLawful 12 = .ok (.if_icmp .gt 7, 3) := by decide +kernel
theorem dX5_isLawful_15 : decode cX5_isLawful 15 = .ok (.iconst 1, 1) := by decide +kernel
theorem dX5_isLawful_16 : decode cX5_isLawful 16 = .ok (.goto 4, 3) := by decide +kernel
theorem dX5_isLawful_19 : decode cX5_isLawful 19 = .ok (.iconst 0, 1) := by decide +kernel
theorem dX5_isLawful_20 : decode cX5_isLawful 20 = .ok (.istore_n 2, 1) := by decide +kernel
theorem dX5_isLawful_21 : decode cX5_isLawful 21 = .ok (.iconst 0, 1) := by decide +kernel
theorem dX5_isLawful_22 : decode cX5_isLawful 22 = .ok (.istore_n 3, 1) := by decide +kernel
theorem dX5_isLawful_23 : decode cX5_isLawful 23 = .ok (.iconst 0, 1) := by decide +kernel
theorem dX5_isLawful_24 : decode cX5_isLawful 24 = .ok (.istore 4, 2) := by decide +kernel
theorem dX5_isLawful_26 : decode cX5_isLawful 26 = .ok (.iload 4, 2) := by decide +kernel
theorem dX5_isLawful_28 : decode cX5_isLawful 28 = .ok (.aload_n 0, 1) := by decide +kernel
theorem dX5_isLawful_29 : decode cX5_isLawful 29 = .ok (.getfield 13, 3) := by decide +kernel
theorem dX5_isLawful_32 : decode cX5_isLawful 32 = .ok (.iconst 0, 1) := by decide +kernel
theorem dX5_isLawful_33 : decode cX5_isLawful 33 = .ok (.iaload, 1) := by decide +kernel
theorem dX5_isLawful_34 : decode cX5_isLawful 34 = .ok (.if_icmp .ge 62, 3) := by decide +kernel
theorem dX5_isLawful_37 : decode cX5_isLawful 37 = .ok (.iload_n 2, 1) := by decide +kernel
theorem dX5_isLawful_38 : decode cX5_isLawful 38 = .ok (.ifCond .eq 58, 3) := by decide +kernel
theorem dX5_isLawful_41 : decode cX5_isLawful 41 = .ok (.aload_n 0, 1) := by decide +kernel
theorem dX5_isLawful_42 : decode cX5_isLawful 42 = .ok (.iload_n 1, 1) := by decide +kernel
theorem dX5_isLawful_43 : decode cX5_isLawful 43 = .ok (.iload 4, 2) := by decide +kernel
theorem dX5_isLawful_45 : decode cX5_isLawful 45 = .ok (.invokevirtual 110, 3) := by decide +kernel
theorem dX5_isLawful_48 : decode cX5_isLawful 48 = .ok (.istore 5, 2) := by decide +kernel
theorem dX5_isLawful_50 : decode cX5_isLawful 50 = .ok (.iload 5, 2) := by decide +kernel
theorem dX5_isLawful_52 : decode cX5_isLawful 52 = .ok (.bipush 8, 2) := by decide +kernel
theorem dX5_isLawful_54 : decode cX5_isLawful 54 = .ok (.if_icmp .eq 12, 3) := by decide +kernel
theorem dX5_isLawful_57 : decode cX5_isLawful 57 = .ok (.iload_n 3, 1) := by decide +kernel
theorem dX5_isLawful_58 : decode cX5_isLawful 58 = .ok (.iload 5, 2) := by decide +kernel
theorem dX5_isLawful_60 : decode cX5_isLawful 60 = .ok (.ishr, 1) := by decide +kernel
theorem dX5_isLawful_61 : decode cX5_isLawful 61 = .ok (.iconst 1, 1) := by decide +kernel
theorem dX5_isLawful_62 : decode cX5_isLawful 62 = .ok (.iand, 1) := by decide +kernel
theorem dX5_isLawful_63 : decode cX5_isLawful 63 = .ok (.ifCond .ne 7, 3) := by decide +kernel
theorem dX5_isLawful_66 : decode cX5_isLawful 66 = .ok (.iconst 1, 1) := by decide +kernel
theorem dX5_isLawful_67 : decode cX5_isLawful 67 = .ok (.goto 4, 3) := by decide +kernel
theorem dX5_isLawful_70 : decode cX5_isLawful 70 = .ok (.iconst 0, 1) := by decide +kernel
theorem dX5_isLawful_71 : decode cX5_isLawful 71 = .ok (.istore_n 2, 1) := by decide +kernel
theorem dX5_isLawful_72 : decode cX5_isLawful 72 = .ok (.iload_n 3, 1) := by decide +kernel
theorem dX5_isLawful_73 : decode cX5_isLawful 73 = .ok (.iload 5, 2) := by decide +kernel
theorem dX5_isLawful_75 : decode cX5_isLawful 75 = .ok (.bipush 8, 2) := by decide +kernel
theorem dX5_isLawful_77 : decode cX5_isLawful 77 = .ok (.if_icmp .ne 7, 3) := by decide +kernel
theorem dX5_isLawful_80 : decode cX5_isLawful 80 = .ok (.iconst 0, 1) := by decide +kernel
theorem dX5_isLawful_81 : decode cX5_isLawful 81 = .ok (.goto 7, 3) := by decide +kernel
theorem dX5_isLawful_84 : decode cX5_isLawful 84 = .ok (.iconst 1, 1) := by decide +kernel
theorem dX5_isLawful_85 : decode cX5_isLawful 85 = .ok (.iload 5, 2) := by decide +kernel
theorem dX5_isLawful_87 : decode cX5_isLawful 87 = .ok (.ishl, 1) := by decide +kernel
theorem dX5_isLawful_88 : decode cX5_isLawful 88 = .ok (.ior, 1) := by decide +kernel
theorem dX5_isLawful_89 : decode cX5_isLawful 89 = .ok (.istore_n 3, 1) := by decide +kernel
theorem dX5_isLawful_90 : decode cX5_isLawful 90 = .ok (.iinc 4 1, 3) := by decide +kernel
theorem dX5_isLawful_93 : decode cX5_isLawful 93 = .ok (.goto (-67), 3) := by decide +kernel
theorem dX5_isLawful_96 : decode cX5_isLawful 96 = .ok (.iconst 0, 1) := by decide +kernel
theorem dX5_isLawful_97 : decode cX5_isLawful 97 = .ok (.istore 4, 2) := by decide +kernel
theorem dX5_isLawful_99 : decode cX5_isLawful 99 = .ok (.iload 4, 2) := by decide +kernel
theorem dX5_isLawful_101 : decode cX5_isLawful 101 = .ok (.aload_n 0, 1) := by decide +kernel
theorem dX5_isLawful_102 : decode cX5_isLawful 102 = .ok (.getfield 13, 3) := by decide +kernel
theorem dX5_isLawful_105 : decode cX5_isLawful 105 = .ok (.iconst 1, 1) := by decide +kernel
theorem dX5_isLawful_106 : decode cX5_isLawful 106 = .ok (.iaload, 1) := by decide +kernel
theorem dX5_isLawful_107 : decode cX5_isLawful 107 = .ok (.if_icmp .ge 21, 3) := by decide +kernel
theorem dX5_isLawful_110 : decode cX5_isLawful 110 = .ok (.iload_n 2, 1) := by decide +kernel
theorem dX5_isLawful_111 : decode cX5_isLawful 111 = .ok (.ifCond .eq 17, 3) := by decide +kernel
theorem dX5_isLawful_114 : decode cX5_isLawful 114 = .ok (.aload_n 0, 1) := by decide +kernel
theorem dX5_isLawful_115 : decode cX5_isLawful 115 = .ok (.iload_n 1, 1) := by decide +kernel
theorem dX5_isLawful_116 : decode cX5_isLawful 116 = .ok (.iload 4, 2) := by decide +kernel
theorem dX5_isLawful_118 : decode cX5_isLawful 118 = .ok (.invokevirtual 116, 3) := by decide +kernel
theorem dX5_isLawful_121 : decode cX5_isLawful 121 = .ok (.istore_n 2, 1) := by decide +kernel
theorem dX5_isLawful_122 : decode cX5_isLawful 122 = .ok (.iinc 4 1, 3) := by decide +kernel
theorem dX5_isLawful_125 : decode cX5_isLawful 125 = .ok (.goto (-26), 3) := by decide +kernel
theorem dX5_isLawful_128 : decode cX5_isLawful 128 = .ok (.iload_n 2, 1) := by decide +kernel
theorem dX5_isLawful_129 : decode cX5_isLawful 129 = .ok (.ireturn, 1) := by decide +kernel
set_option maxRecDepth 20000 in
theorem ggX5_sortAt_X5_panelAt : GoodIn wsX5_sortAt wsX5_panelAt := goodIn_r _ [6, 7, 8, 9, 10, 5, 11, 12, 13, 14, 15, 16, 17, 18, 19, 20, 21, 22, 23, 24, 25, 26, 27, 28, 29, 30, 31, 32, 33] (by decide +kernel) (by decide +kernel)
set_option maxRecDepth 20000 in
theorem gX5_sortAt_X5_panelAt : GoodIn wsX5_sortAt (wsV RX5 120 RX5 yX5_panelAt wsX5_panelAt) := goodIn_app (goodIn_of _ (by decide +kernel)) ggX5_sortAt_X5_panelAt
theorem dX5_sortAt_0 : decode cX5_sortAt 0 = .ok (.aload_n 0, 1) := by decide +kernel
theorem dX5_sortAt_1 : decode cX5_sortAt 1 = .ok (.iload_n 1, 1) := by decide +kernel
theorem dX5_sortAt_2 : decode cX5_sortAt 2 = .ok (.iload_n 2, 1) := by decide +kernel
theorem dX5_sortAt_3 : decode cX5_sortAt 3 = .ok (.invokevirtual 120, 3) := by decide +kernel
theorem dX5_sortAt_6 : decode cX5_sortAt 6 = .ok (.istore_n 3, 1) := by decide +kernel
theorem dX5_sortAt_7 : decode cX5_sortAt 7 = .ok (.iload_n 3, 1) := by decide +kernel
theorem dX5_sortAt_8 : decode cX5_sortAt 8 = .ok (.bipush (-9), 2) := by decide +kernel
theorem dX5_sortAt_10 : decode cX5_sortAt 10 = .ok (.if_icmp .ne 8, 3) := by decide +kernel
theorem dX5_sortAt_13 : decode cX5_sortAt 13 = .ok (.bipush (-9), 2) := by decide +kernel
theorem dX5_sortAt_15 : decode cX5_sortAt 15 = .ok (.goto 9, 3) := by decide +kernel
theorem dX5_sortAt_18 : decode cX5_sortAt 18 = .ok (.aload_n 0, 1) := by decide +kernel
theorem dX5_sortAt_19 : decode cX5_sortAt 19 = .ok (.getfield 17, 3) := by decide +kernel
theorem dX5_sortAt_22 : decode cX5_sortAt 22 = .ok (.iload_n 3, 1) := by decide +kernel
theorem dX5_sortAt_23 : decode cX5_sortAt 23 = .ok (.iaload, 1) := by decide +kernel
theorem dX5_sortAt_24 : decode cX5_sortAt 24 = .ok (.ireturn, 1) := by decide +kernel
set_option maxRecDepth 20000 in
theorem ggX5_leaksIn_X5_sortAt : GoodIn wsX5_leaksIn wsX5_sortAt := goodIn_r _ [6, 7, 8, 9, 10, 5, 11, 1, 12, 13, 14, 15, 16, 17, 18, 22, 23, 24, 25, 26, 27, 28, 29, 30, 31, 32, 33, 34, 35, 36, 37, 38, 39, 40] (by decide +kernel) (by decide +kernel)
set_option maxRecDepth 20000 in
theorem gX5_leaksIn_X5_sortAt : GoodIn wsX5_leaksIn (wsV RX5 123 RX5 yX5_sortAt wsX5_sortAt) := goodIn_app (goodIn_of _ (by decide +kernel)) ggX5_leaksIn_X5_sortAt
set_option maxRecDepth 20000 in
theorem ggX5_leaksIn_X5_in : GoodIn wsX5_leaksIn wsX5_in := goodIn_r _ [21] (by decide +kernel) (by decide +kernel)
set_option maxRecDepth 20000 in
theorem gX5_leaksIn_X5_in : GoodIn wsX5_leaksIn (va_wsS RX5 46 yX5_in wsX5_in) := goodIn_app (goodIn_of _ (by decide +kernel)) ggX5_leaksIn_X5_in
theorem dX5_leaksIn_0 : decode cX5_leaksIn 0 = .ok (.iconst 0, 1) := by decide +kernel
theorem dX5_leaksIn_1 : decode cX5_leaksIn 1 = .ok (.istore_n 2, 1) := by decide +kernel
theorem dX5_leaksIn_2 : decode cX5_leaksIn 2 = .ok (.iconst 0, 1) := by decide +kernel
theorem dX5_leaksIn_3 : decode cX5_leaksIn 3 = .ok (.istore_n 3, 1) := by decide +kernel
theorem dX5_leaksIn_4 : decode cX5_leaksIn 4 = .ok (.iload_n 3, 1) := by decide +kernel
theorem dX5_leaksIn_5 : decode cX5_leaksIn 5 = .ok (.bipush 8, 2) := by decide +kernel
theorem dX5_leaksIn_7 : decode cX5_leaksIn 7 = .ok (.if_icmp .ge 45, 3) := by decide +kernel
theorem dX5_leaksIn_10 : decode cX5_leaksIn 10 = .ok (.iload_n 2, 1) := by decide +kernel
theorem dX5_leaksIn_11 : decode cX5_leaksIn 11 = .ok (.aload_n 0, 1) := by decide +kernel
theorem dX5_leaksIn_12 : decode cX5_leaksIn 12 = .ok (.getfield 13, 3) := by decide +kernel
theorem dX5_leaksIn_15 : decode cX5_leaksIn 15 = .ok (.iconst 2, 1) := by decide +kernel
theorem dX5_leaksIn_16 : decode cX5_leaksIn 16 = .ok (.iaload, 1) := by decide +kernel
theorem dX5_leaksIn_17 : decode cX5_leaksIn 17 = .ok (.iload_n 3, 1) := by decide +kernel
theorem dX5_leaksIn_18 : decode cX5_leaksIn 18 = .ok (.ishr, 1) := by decide +kernel
theorem dX5_leaksIn_19 : decode cX5_leaksIn 19 = .ok (.iconst 1, 1) := by decide +kernel
theorem dX5_leaksIn_20 : decode cX5_leaksIn 20 = .ok (.iand, 1) := by decide +kernel
theorem dX5_leaksIn_21 : decode cX5_leaksIn 21 = .ok (.iconst 1, 1) := by decide +kernel
theorem dX5_leaksIn_22 : decode cX5_leaksIn 22 = .ok (.if_icmp .ne 21, 3) := by decide +kernel
theorem dX5_leaksIn_25 : decode cX5_leaksIn 25 = .ok (.aload_n 0, 1) := by decide +kernel
theorem dX5_leaksIn_26 : decode cX5_leaksIn 26 = .ok (.iload_n 1, 1) := by decide +kernel
theorem dX5_leaksIn_27 : decode cX5_leaksIn 27 = .ok (.iload_n 3, 1) := by decide +kernel
theorem dX5_leaksIn_28 : decode cX5_leaksIn 28 = .ok (.invokevirtual 123, 3) := by decide +kernel
theorem dX5_leaksIn_31 : decode cX5_leaksIn 31 = .ok (.iconst 0, 1) := by decide +kernel
theorem dX5_leaksIn_32 : decode cX5_leaksIn 32 = .ok (.iconst 1, 1) := by decide +kernel
theorem dX5_leaksIn_33 : decode cX5_leaksIn 33 = .ok (.invokestatic 46, 3) := by decide +kernel
theorem dX5_leaksIn_36 : decode cX5_leaksIn 36 = .ok (.ifCond .ne 7, 3) := by decide +kernel
theorem dX5_leaksIn_39 : decode cX5_leaksIn 39 = .ok (.iconst 1, 1) := by decide +kernel
theorem dX5_leaksIn_40 : decode cX5_leaksIn 40 = .ok (.goto 4, 3) := by decide +kernel
theorem dX5_leaksIn_43 : decode cX5_leaksIn 43 = .ok (.iconst 0, 1) := by decide +kernel
theorem dX5_leaksIn_44 : decode cX5_leaksIn 44 = .ok (.iadd, 1) := by decide +kernel
theorem dX5_leaksIn_45 : decode cX5_leaksIn 45 = .ok (.istore_n 2, 1) := by decide +kernel
theorem dX5_leaksIn_46 : decode cX5_leaksIn 46 = .ok (.iinc 3 1, 3) := by decide +kernel
theorem dX5_leaksIn_49 : decode cX5_leaksIn 49 = .ok (.goto (-45), 3) := by decide +kernel
theorem dX5_leaksIn_52 : decode cX5_leaksIn 52 = .ok (.iload_n 2, 1) := by decide +kernel
theorem dX5_leaksIn_53 : decode cX5_leaksIn 53 = .ok (.ireturn, 1) := by decide +kernel
set_option maxRecDepth 20000 in
theorem ggX5_isOpen_X5_sortAt : GoodIn wsX5_isOpen wsX5_sortAt := goodIn_r _ [5, 6, 7, 8, 9, 4, 10, 11, 12, 13, 14, 15, 16, 17, 18, 19, 20, 21, 22, 23, 24, 25, 26, 27, 28, 29, 30, 31, 32, 33, 34, 35, 36, 37] (by decide +kernel) (by decide +kernel)
set_option maxRecDepth 20000 in
theorem gX5_isOpen_X5_sortAt : GoodIn wsX5_isOpen (wsV RX5 123 RX5 yX5_sortAt wsX5_sortAt) := goodIn_app (goodIn_of _ (by decide +kernel)) ggX5_isOpen_X5_sortAt
theorem dX5_isOpen_0 : decode cX5_isOpen 0 = .ok (.aload_n 0, 1) := by decide +kernel
theorem dX5_isOpen_1 : decode cX5_isOpen 1 = .ok (.iload_n 1, 1) := by decide +kernel
theorem dX5_isOpen_2 : decode cX5_isOpen 2 = .ok (.iload_n 2, 1) := by decide +kernel
theorem dX5_isOpen_3 : decode cX5_isOpen 3 = .ok (.invokevirtual 123, 3) := by decide +kernel
theorem dX5_isOpen_6 : decode cX5_isOpen 6 = .ok (.istore_n 3, 1) := by decide +kernel
theorem dX5_isOpen_7 : decode cX5_isOpen 7 = .ok (.iload_n 3, 1) := by decide +kernel
theorem dX5_isOpen_8 : decode cX5_isOpen 8 = .ok (.bipush (-9), 2) := by decide +kernel
theorem dX5_isOpen_10 : decode cX5_isOpen 10 = .ok (.if_icmp .eq 8, 3) := by decide +kernel
theorem dX5_isOpen_13 : decode cX5_isOpen 13 = .ok (.iload_n 3, 1) := by decide +kernel
theorem dX5_isOpen_14 : decode cX5_isOpen 14 = .ok (.iconst 1, 1) := by decide +kernel
theorem dX5_isOpen_15 : decode cX5_isOpen 15 = .ok (.if_icmp .ne 7, 3) := by decide +kernel
theorem dX5_isOpen_18 : decode cX5_isOpen 18 = .ok (.iconst 1, 1) := by decide +kernel
theorem dX5_isOpen_19 : decode cX5_isOpen 19 = .ok (.goto 4, 3) := by decide +kernel
theorem dX5_isOpen_22 : decode cX5_isOpen 22 = .ok (.iconst 0, 1) := by decide +kernel
theorem dX5_isOpen_23 : decode cX5_isOpen 23 = .ok (.ireturn, 1) := by decide +kernel
set_option maxRecDepth 20000 in
theorem ggX5_isLit_X5_isOpen : GoodIn wsX5_isLit wsX5_isOpen := goodIn_r _ [6, 7, 8, 9, 5, 10, 11, 12, 13, 14, 15, 1, 16, 17, 18, 19, 20, 21, 22, 23, 24, 25, 26, 27, 28, 29, 30, 31, 32, 33, 34, 35, 36, 37, 38, 39, 40, 41] (by decide +kernel) (by decide +kernel)
set_option maxRecDepth 20000 in
theorem gX5_isLit_X5_isOpen : GoodIn wsX5_isLit (wsV RX5 126 RX5 yX5_isOpen wsX5_isOpen) := goodIn_app (goodIn_of _ (by decide +kernel)) ggX5_isLit_X5_isOpen
theorem dX5_isLit_0 : decode cX5_isLit 0 = .ok (.aload_n 0, 1) := by decide +kernel
theorem dX5_isLit_1 : decode cX5_isLit 1 = .ok (.getfield 13, 3) := by decide +kernel
theorem dX5_isLit_4 : decode cX5_isLit 4 = .ok (.iconst 3, 1) := by decide +kernel
theorem dX5_isLit_5 : decode cX5_isLit 5 = .ok (.iaload, 1) := by decide +kernel
theorem dX5_isLit_6 : decode cX5_isLit 6 = .ok (.iload_n 2, 1) := by decide +kernel
theorem dX5_isLit_7 : decode cX5_isLit 7 = .ok (.ishr, 1) := by decide +kernel
theorem dX5_isLit_8 : decode cX5_isLit 8 = .ok (.iconst 1, 1) := by decide +kernel
theorem dX5_isLit_9 : decode cX5_isLit 9 = .ok (.iand, 1) := by decide +kernel
theorem dX5_isLit_10 : decode cX5_isLit 10 = .ok (.iconst 1, 1) := by decide +kernel
theorem dX5_isLit_11 : decode cX5_isLit 11 = .ok (.if_icmp .ne 16, 3) := by decide +kernel
theorem dX5_isLit_14 : decode cX5_isLit 14 = .ok (.aload_n 0, 1) := by decide +kernel
theorem dX5_isLit_15 : decode cX5_isLit 15 = .ok (.iload_n 1, 1) := by decide +kernel
theorem dX5_isLit_16 : decode cX5_isLit 16 = .ok (.iload_n 2, 1) := by decide +kernel
theorem dX5_isLit_17 : decode cX5_isLit 17 = .ok (.invokevirtual 126, 3) := by decide +kernel
theorem dX5_isLit_20 : decode cX5_isLit 20 = .ok (.ifCond .eq 7, 3) := by decide +kernel
theorem dX5_isLit_23 : decode cX5_isLit 23 = .ok (.iconst 1, 1) := by decide +kernel
theorem dX5_isLit_24 : decode cX5_isLit 24 = .ok (.goto 4, 3) := by decide +kernel
theorem dX5_isLit_27 : decode cX5_isLit 27 = .ok (.iconst 0, 1) := by decide +kernel
theorem dX5_isLit_28 : decode cX5_isLit 28 = .ok (.ireturn, 1) := by decide +kernel
set_option maxRecDepth 20000 in
theorem ggX5_worthOf_X5_leaksIn : GoodIn wsX5_worthOf wsX5_leaksIn := goodIn_r _ [6, 1, 7, 8, 9, 5, 10, 11, 12, 13, 14, 15, 16, 17, 18, 19, 20, 21, 22, 23, 24, 25, 34, 35, 36, 37, 38, 39, 40, 41, 42, 43, 44, 45, 46, 47, 48, 49, 50, 51, 52] (by decide +kernel) (by decide +kernel)
set_option maxRecDepth 20000 in
theorem gX5_worthOf_X5_leaksIn : GoodIn wsX5_worthOf (wsV RX5 129 RX5 yX5_leaksIn wsX5_leaksIn) := goodIn_app (goodIn_of _ (by decide +kernel)) ggX5_worthOf_X5_leaksIn
set_option maxRecDepth 20000 in
theorem ggX5_worthOf_X5_isLit : GoodIn wsX5_worthOf wsX5_isLit := goodIn_r _ [29, 1, 30, 31, 32, 5, 33, 7, 8, 9, 10, 11, 12, 13, 14, 15, 16, 17, 18, 19, 20, 21, 22, 34, 35, 36, 37, 38, 39, 40, 41, 42, 43, 44, 45, 46, 47, 48, 49, 50, 51, 52] (by decide +kernel) (by decide +kernel)
set_option maxRecDepth 20000 in
theorem gX5_worthOf_X5_isLit : GoodIn wsX5_worthOf (wsV RX5 132 RX5 yX5_isLit wsX5_isLit) := goodIn_app (goodIn_of _ (by decide +kernel)) ggX5_worthOf_X5_isLit
set_option maxRecDepth 20000 in
theorem ggX5_worthOf_X5_isOpen : GoodIn wsX5_worthOf wsX5_isOpen := goodIn_r _ [33, 7, 8, 9, 5, 10, 11, 12, 13, 14, 15, 1, 16, 17, 18, 19, 20, 21, 22, 34, 35, 36, 37, 38, 39, 40, 41, 42, 43, 44, 45, 46, 47, 48, 49, 50, 51, 52] (by decide +kernel) (by decide +kernel)
set_option maxRecDepth 20000 in
theorem gX5_worthOf_X5_isOpen : GoodIn wsX5_worthOf (wsV RX5 126 RX5 yX5_isOpen wsX5_isOpen) := goodIn_app (goodIn_of _ (by decide +kernel)) ggX5_worthOf_X5_isOpen
set_option maxRecDepth 20000 in
theorem ggX5_worthOf_X5_sortAt : GoodIn wsX5_worthOf wsX5_sortAt := goodIn_r _ [10, 11, 12, 13, 14, 5, 15, 1, 16, 17, 18, 19, 20, 21, 22, 34, 35, 36, 37, 38, 39, 40, 41, 42, 43, 44, 45, 46, 47, 48, 49, 50, 51, 52] (by decide +kernel) (by decide +kernel)
set_option maxRecDepth 20000 in
theorem gX5_worthOf_X5_sortAt : GoodIn wsX5_worthOf (wsV RX5 123 RX5 yX5_sortAt wsX5_sortAt) := goodIn_app (goodIn_of _ (by decide +kernel)) ggX5_worthOf_X5_sortAt
theorem dX5_worthOf_0 : decode cX5_worthOf 0 = .ok (.bipush (-2), 2) := by decide +kernel
theorem dX5_worthOf_2 : decode cX5_worthOf 2 = .ok (.aload_n 0, 1) := by decide +kernel
theorem dX5_worthOf_3 : decode cX5_worthOf 3 = .ok (.iload_n 1, 1) := by decide +kernel
theorem dX5_worthOf_4 : decode cX5_worthOf 4 = .ok (.invokevirtual 129, 3) := by decide +kernel
theorem dX5_worthOf_7 : decode cX5_worthOf 7 = .ok (.imul, 1) := by decide +kernel
theorem dX5_worthOf_8 : decode cX5_worthOf 8 = .ok (.istore_n 2, 1) := by decide +kernel
theorem dX5_worthOf_9 : decode cX5_worthOf 9 = .ok (.iconst 0, 1) := by decide +kernel
theorem dX5_worthOf_10 : decode cX5_worthOf 10 = .ok (.istore_n 3, 1) := by decide +kernel
theorem dX5_worthOf_11 : decode cX5_worthOf 11 = .ok (.iload_n 3, 1) := by decide +kernel
theorem dX5_worthOf_12 : decode cX5_worthOf 12 = .ok (.bipush 8, 2) := by decide +kernel
theorem dX5_worthOf_14 : decode cX5_worthOf 14 = .ok (.if_icmp .ge 26, 3) := by decide +kernel
theorem dX5_worthOf_17 : decode cX5_worthOf 17 = .ok (.iload_n 2, 1) := by decide +kernel
theorem dX5_worthOf_18 : decode cX5_worthOf 18 = .ok (.aload_n 0, 1) := by decide +kernel
theorem dX5_worthOf_19 : decode cX5_worthOf 19 = .ok (.iload_n 1, 1) := by decide +kernel
theorem dX5_worthOf_20 : decode cX5_worthOf 20 = .ok (.iload_n 3, 1) := by decide +kernel
theorem dX5_worthOf_21 : decode cX5_worthOf 21 = .ok (.invokevirtual 132, 3) := by decide +kernel
theorem dX5_worthOf_24 : decode cX5_worthOf 24 = .ok (.ifCond .eq 7, 3) := by decide +kernel
theorem dX5_worthOf_27 : decode cX5_worthOf 27 = .ok (.iconst 3, 1) := by decide +kernel
theorem dX5_worthOf_28 : decode cX5_worthOf 28 = .ok (.goto 4, 3) := by decide +kernel
theorem dX5_worthOf_31 : decode cX5_worthOf 31 = .ok (.iconst 0, 1) := by decide +kernel
theorem dX5_worthOf_32 : decode cX5_worthOf 32 = .ok (.iadd, 1) := by decide +kernel
theorem dX5_worthOf_33 : decode cX5_worthOf 33 = .ok (.istore_n 2, 1) := by decide +kernel
theorem dX5_worthOf_34 : decode cX5_worthOf 34 = .ok (.iinc 3 1, 3) := by decide +kernel
theorem dX5_worthOf_37 : decode cX5_worthOf 37 = .ok (.goto (-26), 3) := by decide +kernel
theorem dX5_worthOf_40 : decode cX5_worthOf 40 = .ok (.iload_n 2, 1) := by decide +kernel
theorem dX5_worthOf_41 : decode cX5_worthOf 41 = .ok (.aload_n 0, 1) := by decide +kernel
theorem dX5_worthOf_42 : decode cX5_worthOf 42 = .ok (.getfield 13, 3) := by decide +kernel
theorem dX5_worthOf_45 : decode cX5_worthOf 45 = .ok (.iconst 4, 1) := by decide +kernel
theorem dX5_worthOf_46 : decode cX5_worthOf 46 = .ok (.iaload, 1) := by decide +kernel
theorem dX5_worthOf_47 : decode cX5_worthOf 47 = .ok (.bipush (-9), 2) := by decide +kernel
theorem dX5_worthOf_49 : decode cX5_worthOf 49 = .ok (.if_icmp .eq 21, 3) := by decide +kernel
theorem dX5_worthOf_52 : decode cX5_worthOf 52 = .ok (.aload_n 0, 1) := by decide +kernel
theorem dX5_worthOf_53 : decode cX5_worthOf 53 = .ok (.iload_n 1, 1) := by decide +kernel
theorem dX5_worthOf_54 : decode cX5_worthOf 54 = .ok (.aload_n 0, 1) := by decide +kernel
theorem dX5_worthOf_55 : decode cX5_worthOf 55 = .ok (.getfield 13, 3) := by decide +kernel
theorem dX5_worthOf_58 : decode cX5_worthOf 58 = .ok (.iconst 4, 1) := by decide +kernel
theorem dX5_worthOf_59 : decode cX5_worthOf 59 = .ok (.iaload, 1) := by decide +kernel
theorem dX5_worthOf_60 : decode cX5_worthOf 60 = .ok (.invokevirtual 126, 3) := by decide +kernel
theorem dX5_worthOf_63 : decode cX5_worthOf 63 = .ok (.ifCond .eq 7, 3) := by decide +kernel
theorem dX5_worthOf_66 : decode cX5_worthOf 66 = .ok (.iconst 5, 1) := by decide +kernel
theorem dX5_worthOf_67 : decode cX5_worthOf 67 = .ok (.goto 4, 3) := by decide +kernel
theorem dX5_worthOf_70 : decode cX5_worthOf 70 = .ok (.iconst 0, 1) := by decide +kernel
theorem dX5_worthOf_71 : decode cX5_worthOf 71 = .ok (.iadd, 1) := by decide +kernel
theorem dX5_worthOf_72 : decode cX5_worthOf 72 = .ok (.istore_n 2, 1) := by decide +kernel
theorem dX5_worthOf_73 : decode cX5_worthOf 73 = .ok (.aload_n 0, 1) := by decide +kernel
theorem dX5_worthOf_74 : decode cX5_worthOf 74 = .ok (.getfield 13, 3) := by decide +kernel
theorem dX5_worthOf_77 : decode cX5_worthOf 77 = .ok (.iconst 5, 1) := by decide +kernel
theorem dX5_worthOf_78 : decode cX5_worthOf 78 = .ok (.iaload, 1) := by decide +kernel
theorem dX5_worthOf_79 : decode cX5_worthOf 79 = .ok (.bipush (-9), 2) := by decide +kernel
theorem dX5_worthOf_81 : decode cX5_worthOf 81 = .ok (.if_icmp .ne 8, 3) := by decide +kernel
theorem dX5_worthOf_84 : decode cX5_worthOf 84 = .ok (.bipush (-9), 2) := by decide +kernel
theorem dX5_worthOf_86 : decode cX5_worthOf 86 = .ok (.goto 14, 3) := by decide +kernel
theorem dX5_worthOf_89 : decode cX5_worthOf 89 = .ok (.aload_n 0, 1) := by decide +kernel
theorem dX5_worthOf_90 : decode cX5_worthOf 90 = .ok (.iload_n 1, 1) := by decide +kernel
theorem dX5_worthOf_91 : decode cX5_worthOf 91 = .ok (.aload_n 0, 1) := by decide +kernel
theorem dX5_worthOf_92 : decode cX5_worthOf 92 = .ok (.getfield 13, 3) := by decide +kernel
theorem dX5_worthOf_95 : decode cX5_worthOf 95 = .ok (.iconst 5, 1) := by decide +kernel
theorem dX5_worthOf_96 : decode cX5_worthOf 96 = .ok (.iaload, 1) := by decide +kernel
theorem dX5_worthOf_97 : decode cX5_worthOf 97 = .ok (.invokevirtual 123, 3) := by decide +kernel
theorem dX5_worthOf_100 : decode cX5_worthOf 100 = .ok (.istore_n 3, 1) := by decide +kernel
theorem dX5_worthOf_101 : decode cX5_worthOf 101 = .ok (.iload_n 2, 1) := by decide +kernel
theorem dX5_worthOf_102 : decode cX5_worthOf 102 = .ok (.iload_n 3, 1) := by decide +kernel
theorem dX5_worthOf_103 : decode cX5_worthOf 103 = .ok (.bipush (-9), 2) := by decide +kernel
theorem dX5_worthOf_105 : decode cX5_worthOf 105 = .ok (.if_icmp .ne 7, 3) := by decide +kernel
theorem dX5_worthOf_108 : decode cX5_worthOf 108 = .ok (.iconst 0, 1) := by decide +kernel
theorem dX5_worthOf_109 : decode cX5_worthOf 109 = .ok (.goto 12, 3) := by decide +kernel
theorem dX5_worthOf_112 : decode cX5_worthOf 112 = .ok (.iload_n 3, 1) := by decide +kernel
theorem dX5_worthOf_113 : decode cX5_worthOf 113 = .ok (.ifCond .ne 7, 3) := by decide +kernel
theorem dX5_worthOf_116 : decode cX5_worthOf 116 = .ok (.iconst 4, 1) := by decide +kernel
theorem dX5_worthOf_117 : decode cX5_worthOf 117 = .ok (.goto 4, 3) := by decide +kernel
theorem dX5_worthOf_120 : decode cX5_worthOf 120 = .ok (.iconst 2, 1) := by decide +kernel
theorem dX5_worthOf_121 : decode cX5_worthOf 121 = .ok (.iadd, 1) := by decide +kernel
theorem dX5_worthOf_122 : decode cX5_worthOf 122 = .ok (.ireturn, 1) := by decide +kernel
set_option maxRecDepth 20000 in
theorem ggX5_panel_X5_isPanel : GoodIn wsX5_panel wsX5_isPanel := goodIn_r _ [7, 8, 9, 10, 6, 11, 19, 20, 21, 22, 23, 24, 25, 26, 27, 28, 29, 30, 31, 32, 33, 34, 35, 36, 37] (by decide +kernel) (by decide +kernel)
set_option maxRecDepth 20000 in
theorem gX5_panel_X5_isPanel : GoodIn wsX5_panel (wsV RX5 135 RX5 yX5_isPanel wsX5_isPanel) := goodIn_app (goodIn_of _ (by decide +kernel)) ggX5_panel_X5_isPanel
set_option maxRecDepth 20000 in
theorem ggX5_panel_X5_in : GoodIn wsX5_panel wsX5_in := goodIn_r _ [11] (by decide +kernel) (by decide +kernel)
set_option maxRecDepth 20000 in
theorem gX5_panel_X5_in : GoodIn wsX5_panel (va_wsS RX5 46 yX5_in wsX5_in) := goodIn_app (goodIn_of _ (by decide +kernel)) ggX5_panel_X5_in
set_option maxRecDepth 20000 in
theorem ggX5_panel_X5_slotIn : GoodIn wsX5_panel wsX5_slotIn := goodIn_r _ [15, 8, 16, 17, 6, 18, 19, 20, 21, 22, 23, 24, 25, 26, 27, 28, 29, 30, 31, 32, 33, 34, 35, 36, 37] (by decide +kernel) (by decide +kernel)
set_option maxRecDepth 20000 in
theorem gX5_panel_X5_slotIn : GoodIn wsX5_panel (wsV RX5 110 RX5 yX5_slotIn wsX5_slotIn) := goodIn_app (goodIn_of _ (by decide +kernel)) ggX5_panel_X5_slotIn
theorem dX5_panel_0 : decode cX5_panel 0 = .ok (.aload_n 0, 1) := by decide +kernel
theorem dX5_panel_1 : decode cX5_panel 1 = .ok (.iload_n 1, 1) := by decide +kernel
theorem dX5_panel_2 : decode cX5_panel 2 = .ok (.invokevirtual 135, 3) := by decide +kernel
theorem dX5_panel_5 : decode cX5_panel 5 = .ok (.ifCond .eq 39, 3) := by decide +kernel
theorem dX5_panel_8 : decode cX5_panel 8 = .ok (.iload_n 2, 1) := by decide +kernel
theorem dX5_panel_9 : decode cX5_panel 9 = .ok (.iconst 0, 1) := by decide +kernel
theorem dX5_panel_10 : decode cX5_panel 10 = .ok (.iconst 1, 1) := by decide +kernel
theorem dX5_panel_11 : decode cX5_panel 11 = .ok (.invokestatic 46, 3) := by decide +kernel
theorem dX5_panel_14 : decode cX5_panel 14 = .ok (.ifCond .eq 30, 3) := by decide +kernel
theorem dX5_panel_17 : decode cX5_panel 17 = .ok (.iload_n 2, 1) := by decide +kernel
theorem dX5_panel_18 : decode cX5_panel 18 = .ok (.ifCond .ne 12, 3) := by decide +kernel
theorem dX5_panel_21 : decode cX5_panel 21 = .ok (.aload_n 0, 1) := by decide +kernel
theorem dX5_panel_22 : decode cX5_panel 22 = .ok (.getfield 17, 3) := by decide +kernel
theorem dX5_panel_25 : decode cX5_panel 25 = .ok (.iload_n 1, 1) := by decide +kernel
theorem dX5_panel_26 : decode cX5_panel 26 = .ok (.iaload, 1) := by decide +kernel
theorem dX5_panel_27 : decode cX5_panel 27 = .ok (.goto 18, 3) := by decide +kernel
theorem dX5_panel_30 : decode cX5_panel 30 = .ok (.aload_n 0, 1) := by decide +kernel
theorem dX5_panel_31 : decode cX5_panel 31 = .ok (.aload_n 0, 1) := by decide +kernel
theorem dX5_panel_32 : decode cX5_panel 32 = .ok (.getfield 26, 3) := by decide +kernel
theorem dX5_panel_35 : decode cX5_panel 35 = .ok (.iconst 0, 1) := by decide +kernel
theorem dX5_panel_36 : decode cX5_panel 36 = .ok (.iaload, 1) := by decide +kernel
theorem dX5_panel_37 : decode cX5_panel 37 = .ok (.iload_n 1, 1) := by decide +kernel
theorem dX5_panel_38 : decode cX5_panel 38 = .ok (.invokevirtual 110, 3) := by decide +kernel
theorem dX5_panel_41 : decode cX5_panel 41 = .ok (.goto 4, 3) := by decide +kernel
theorem dX5_panel_44 : decode cX5_panel 44 = .ok (.iconst (-1), 1) := by decide +kernel
theorem dX5_panel_45 : decode cX5_panel 45 = .ok (.ireturn, 1) := by decide +kernel
set_option maxRecDepth 20000 in
theorem ggX5_slot_X5_in : GoodIn wsX5_slot wsX5_in := goodIn_r _ [6] (by decide +kernel) (by decide +kernel)
set_option maxRecDepth 20000 in
theorem gX5_slot_X5_in : GoodIn wsX5_slot (va_wsS RX5 46 yX5_in wsX5_in) := goodIn_app (goodIn_of _ (by decide +kernel)) ggX5_slot_X5_in
set_option maxRecDepth 20000 in
theorem ggX5_slot_X5_panelAt : GoodIn wsX5_slot wsX5_panelAt := goodIn_r _ [10, 2, 11, 12, 13, 5, 14, 15, 16, 17, 18, 19, 20, 21, 22, 23, 24, 25, 26, 27, 28, 29, 30, 31, 32, 33, 34, 35, 36] (by decide +kernel) (by decide +kernel)
set_option maxRecDepth 20000 in
theorem gX5_slot_X5_panelAt : GoodIn wsX5_slot (wsV RX5 120 RX5 yX5_panelAt wsX5_panelAt) := goodIn_app (goodIn_of _ (by decide +kernel)) ggX5_slot_X5_panelAt
theorem dX5_slot_0 : decode cX5_slot 0 = .ok (.iload_n 1, 1) := by decide +kernel
theorem dX5_slot_1 : decode cX5_slot 1 = .ok (.iconst 0, 1) := by decide +kernel
theorem dX5_slot_2 : decode cX5_slot 2 = .ok (.bipush 7, 2) := by decide +kernel
theorem dX5_slot_4 : decode cX5_slot 4 = .ok (.invokestatic 46, 3) := by decide +kernel
theorem dX5_slot_7 : decode cX5_slot 7 = .ok (.ifCond .eq 12, 3) := by decide +kernel
theorem dX5_slot_10 : decode cX5_slot 10 = .ok (.iload_n 2, 1) := by decide +kernel
theorem dX5_slot_11 : decode cX5_slot 11 = .ok (.iconst 0, 1) := by decide +kernel
theorem dX5_slot_12 : decode cX5_slot 12 = .ok (.iconst 2, 1) := by decide +kernel
theorem dX5_slot_13 : decode cX5_slot 13 = .ok (.invokestatic 46, 3) := by decide +kernel
theorem dX5_slot_16 : decode cX5_slot 16 = .ok (.ifCond .ne 5, 3) := by decide +kernel
theorem dX5_slot_19 : decode cX5_slot 19 = .ok (.iconst (-1), 1) := by decide +kernel
theorem dX5_slot_20 : decode cX5_slot 20 = .ok (.ireturn, 1) := by decide +kernel
theorem dX5_slot_21 : decode cX5_slot 21 = .ok (.iload_n 2, 1) := by decide +kernel
theorem dX5_slot_22 : decode cX5_slot 22 = .ok (.ifCond .ne 17, 3) := by decide +kernel
theorem dX5_slot_25 : decode cX5_slot 25 = .ok (.aload_n 0, 1) := by decide +kernel
theorem dX5_slot_26 : decode cX5_slot 26 = .ok (.aload_n 0, 1) := by decide +kernel
theorem dX5_slot_27 : decode cX5_slot 27 = .ok (.getfield 26, 3) := by decide +kernel
theorem dX5_slot_30 : decode cX5_slot 30 = .ok (.iconst 0, 1) := by decide +kernel
theorem dX5_slot_31 : decode cX5_slot 31 = .ok (.iaload, 1) := by decide +kernel
theorem dX5_slot_32 : decode cX5_slot 32 = .ok (.iload_n 1, 1) := by decide +kernel
theorem dX5_slot_33 : decode cX5_slot 33 = .ok (.invokevirtual 120, 3) := by decide +kernel
theorem dX5_slot_36 : decode cX5_slot 36 = .ok (.goto 17, 3) := by decide +kernel
theorem dX5_slot_39 : decode cX5_slot 39 = .ok (.aload_n 0, 1) := by decide +kernel
theorem dX5_slot_40 : decode cX5_slot 40 = .ok (.getfield 13, 3) := by decide +kernel
theorem dX5_slot_43 : decode cX5_slot 43 = .ok (.iconst 2, 1) := by decide +kernel
theorem dX5_slot_44 : decode cX5_slot 44 = .ok (.iload_n 2, 1) := by decide +kernel
theorem dX5_slot_45 : decode cX5_slot 45 = .ok (.iadd, 1) := by decide +kernel
theorem dX5_slot_46 : decode cX5_slot 46 = .ok (.iconst 1, 1) := by decide +kernel
theorem dX5_slot_47 : decode cX5_slot 47 = .ok (.isub, 1) := by decide +kernel
theorem dX5_slot_48 : decode cX5_slot 48 = .ok (.iaload, 1) := by decide +kernel
theorem dX5_slot_49 : decode cX5_slot 49 = .ok (.iload_n 1, 1) := by decide +kernel
theorem dX5_slot_50 : decode cX5_slot 50 = .ok (.ishr, 1) := by decide +kernel
