theorem dX3_init_0 : decode cX3_init 0 = .ok (.aload_n 0, 1) := by decide +kernel
theorem dX3_init_1 : decode cX3_init 1 = .ok (.invokespecial 3, 3) := by decide +kernel
theorem dX3_init_4 : decode cX3_init 4 = .ok (.aload_n 0, 1) := by decide +kernel
theorem dX3_init_5 : decode cX3_init 5 = .ok (.sipush 200, 3) := by decide +kernel
theorem dX3_init_8 : decode cX3_init 8 = .ok (.newarray .int, 2) := by decide +kernel
theorem dX3_init_10 : decode cX3_init 10 = .ok (.putfield 11, 3) := by decide +kernel
theorem dX3_init_13 : decode cX3_init 13 = .ok (.return_, 1) := by decide +kernel
theorem dX3_append_0 : decode cX3_append 0 = .ok (.aload_n 0, 1) := by decide +kernel
theorem dX3_append_1 : decode cX3_append 1 = .ok (.getfield 15, 3) := by decide +kernel
theorem dX3_append_4 : decode cX3_append 4 = .ok (.ifCond .lt 35, 3) := by decide +kernel
theorem dX3_append_7 : decode cX3_append 7 = .ok (.aload_n 0, 1) := by decide +kernel
theorem dX3_append_8 : decode cX3_append 8 = .ok (.getfield 15, 3) := by decide +kernel
theorem dX3_append_11 : decode cX3_append 11 = .ok (.aload_n 0, 1) := by decide +kernel
theorem dX3_append_12 : decode cX3_append 12 = .ok (.getfield 11, 3) := by decide +kernel
theorem dX3_append_15 : decode cX3_append 15 = .ok (.arraylength, 1) := by decide +kernel
theorem dX3_append_16 : decode cX3_append 16 = .ok (.if_icmp .ge 23, 3) := by decide +kernel
theorem dX3_append_19 : decode cX3_append 19 = .ok (.aload_n 0, 1) := by decide +kernel
theorem dX3_append_20 : decode cX3_append 20 = .ok (.getfield 11, 3) := by decide +kernel
theorem dX3_append_23 : decode cX3_append 23 = .ok (.aload_n 0, 1) := by decide +kernel
theorem dX3_append_24 : decode cX3_append 24 = .ok (.getfield 15, 3) := by decide +kernel
theorem dX3_append_27 : decode cX3_append 27 = .ok (.iload_n 1, 1) := by decide +kernel
theorem dX3_append_28 : decode cX3_append 28 = .ok (.iastore, 1) := by decide +kernel
theorem dX3_append_29 : decode cX3_append 29 = .ok (.aload_n 0, 1) := by decide +kernel
theorem dX3_append_30 : decode cX3_append 30 = .ok (.dup, 1) := by decide +kernel
theorem dX3_append_31 : decode cX3_append 31 = .ok (.getfield 15, 3) := by decide +kernel
theorem dX3_append_34 : decode cX3_append 34 = .ok (.iconst 1, 1) := by decide +kernel
theorem dX3_append_35 : decode cX3_append 35 = .ok (.iadd, 1) := by decide +kernel
theorem dX3_append_36 : decode cX3_append 36 = .ok (.putfield 15, 3) := by decide +kernel
theorem dX3_append_39 : decode cX3_append 39 = .ok (.return_, 1) := by decide +kernel
theorem dX3_byteAt_0 : decode cX3_byteAt 0 = .ok (.iload_n 1, 1) := by decide +kernel
theorem dX3_byteAt_1 : decode cX3_byteAt 1 = .ok (.ifCond .lt 29, 3) := by decide +kernel
theorem dX3_byteAt_4 : decode cX3_byteAt 4 = .ok (.iload_n 1, 1) := by decide +kernel
theorem dX3_byteAt_5 : decode cX3_byteAt 5 = .ok (.aload_n 0, 1) := by decide +kernel
theorem dX3_byteAt_6 : decode cX3_byteAt 6 = .ok (.getfield 15, 3) := by decide +kernel
theorem dX3_byteAt_9 : decode cX3_byteAt 9 = .ok (.if_icmp .ge 21, 3) := by decide +kernel
theorem dX3_byteAt_12 : decode cX3_byteAt 12 = .ok (.iload_n 1, 1) := by decide +kernel
theorem dX3_byteAt_13 : decode cX3_byteAt 13 = .ok (.aload_n 0, 1) := by decide +kernel
theorem dX3_byteAt_14 : decode cX3_byteAt 14 = .ok (.getfield 11, 3) := by decide +kernel
theorem dX3_byteAt_17 : decode cX3_byteAt 17 = .ok (.arraylength, 1) := by decide +kernel
theorem dX3_byteAt_18 : decode cX3_byteAt 18 = .ok (.if_icmp .ge 12, 3) := by decide +kernel
theorem dX3_byteAt_21 : decode cX3_byteAt 21 = .ok (.aload_n 0, 1) := by decide +kernel
theorem dX3_byteAt_22 : decode cX3_byteAt 22 = .ok (.getfield 11, 3) := by decide +kernel
theorem dX3_byteAt_25 : decode cX3_byteAt 25 = .ok (.iload_n 1, 1) := by decide +kernel
theorem dX3_byteAt_26 : decode cX3_byteAt 26 = .ok (.iaload, 1) := by decide +kernel
theorem dX3_byteAt_27 : decode cX3_byteAt 27 = .ok (.goto 4, 3) := by decide +kernel
theorem dX3_byteAt_30 : decode cX3_byteAt 30 = .ok (.iconst (-1), 1) := by decide +kernel
theorem dX3_byteAt_31 : decode cX3_byteAt 31 = .ok (.ireturn, 1) := by decide +kernel
set_option maxRecDepth 20000 in
theorem ggX3_tell_X1_startAnew : GoodIn wsX3_tell wsX1_startAnew := goodIn_r _ [9, 10, 11, 12, 13, 14, 15, 16, 17, 18, 149, 150, 151, 152, 153, 154, 155, 156, 157, 158, 159] (by decide +kernel) (by decide +kernel)
set_option maxRecDepth 20000 in
theorem gX3_tell_X1_startAnew_n19 : GoodIn wsX3_tell (wsX1_startAnew) := ggX3_tell_X1_startAnew
set_option maxRecDepth 20000 in
theorem ggX3_tell_X3_nextToken : GoodIn wsX3_tell wsX3_nextToken := goodIn_r _ [23, 3, 24, 5, 4, 25, 26, 27, 22, 28, 29, 30, 31, 32, 33, 34, 35, 36, 37, 38, 39, 40, 41, 42, 43, 44, 45, 46, 47, 48, 49, 50, 51, 52, 53, 54, 55, 56, 57, 58, 59, 60, 61, 62, 63, 64, 65, 66, 67, 68, 69, 70, 71, 72, 73, 74, 75, 76, 77, 78, 79, 80, 81, 82, 83, 84, 85, 86, 87, 88, 89, 90, 91, 92, 93, 94, 95, 96, 97, 98, 99, 100, 101, 102, 103, 104, 141, 142, 143, 144, 145, 146, 147, 148] (by decide +kernel) (by decide +kernel)
set_option maxRecDepth 20000 in
theorem gX3_tell_X3_nextToken : GoodIn wsX3_tell (wsV RX3 34 RX3 yX3_nextToken wsX3_nextToken) := goodIn_app (goodIn_of _ (by decide +kernel)) ggX3_tell_X3_nextToken
set_option maxRecDepth 20000 in
theorem ggX3_tell_X3_tellItem : GoodIn wsX3_tell wsX3_tellItem := goodIn_r _ [108, 4, 37, 109, 110, 111, 22, 112, 1, 2, 19, 20, 21, 23, 3, 24, 5, 25, 26, 27, 28, 29, 30, 31, 32, 33, 34, 35, 36, 38, 39, 40, 41, 42, 43, 44, 45, 46, 47, 48, 49, 50, 51, 52, 53, 54, 55, 56, 57, 58, 59, 60, 61, 62, 63, 64, 65, 66, 67, 68, 69, 70, 71, 72, 73, 74, 75, 76, 77, 78, 79, 80, 81, 82, 83, 84, 85, 86, 87, 88, 89, 90, 91, 92, 93, 94, 95, 96, 97, 98, 99, 100, 101, 102, 103, 104, 113, 114, 115, 116, 117, 118, 119, 7, 120, 121, 10, 122, 123, 124, 125, 126, 127, 128, 129, 130, 131, 132, 133, 12, 134, 135, 136, 137, 138, 11, 139, 140, 141, 142, 143, 144, 145, 146, 147, 148, 149, 150, 151, 152, 153, 154, 155, 156, 157, 158, 159] (by decide +kernel) (by decide +kernel)
set_option maxRecDepth 20000 in
theorem gX3_tell_X3_tellItem : GoodIn wsX3_tell (wsV RX3 40 RX3 yX3_tellItem wsX3_tellItem) := goodIn_app (goodIn_of _ (by decide +kernel)) ggX3_tell_X3_tellItem
theorem dX3_tell_0 : decode cX3_tell 0 = .ok (.aload_n 1, 1) := by decide +kernel
theorem dX3_tell_1 : decode cX3_tell 1 = .ok (.invokevirtual 19, 3) := by decide +kernel
theorem dX3_tell_4 : decode cX3_tell 4 = .ok (.aload_n 0, 1) := by decide +kernel
theorem dX3_tell_5 : decode cX3_tell 5 = .ok (.iconst 0, 1) := by decide +kernel
theorem dX3_tell_6 : decode cX3_tell 6 = .ok (.putfield 24, 3) := by decide +kernel
theorem dX3_tell_9 : decode cX3_tell 9 = .ok (.aload_n 0, 1) := by decide +kernel
theorem dX3_tell_10 : decode cX3_tell 10 = .ok (.iconst 0, 1) := by decide +kernel
theorem dX3_tell_11 : decode cX3_tell 11 = .ok (.putfield 28, 3) := by decide +kernel
theorem dX3_tell_14 : decode cX3_tell 14 = .ok (.aload_n 0, 1) := by decide +kernel
theorem dX3_tell_15 : decode cX3_tell 15 = .ok (.iconst 0, 1) := by decide +kernel
theorem dX3_tell_16 : decode cX3_tell 16 = .ok (.putfield 31, 3) := by decide +kernel
theorem dX3_tell_19 : decode cX3_tell 19 = .ok (.iconst 0, 1) := by decide +kernel
theorem dX3_tell_20 : decode cX3_tell 20 = .ok (.istore_n 2, 1) := by decide +kernel
theorem dX3_tell_21 : decode cX3_tell 21 = .ok (.aload_n 0, 1) := by decide +kernel
theorem dX3_tell_22 : decode cX3_tell 22 = .ok (.invokevirtual 34, 3) := by decide +kernel
theorem dX3_tell_25 : decode cX3_tell 25 = .ok (.iconst 0, 1) := by decide +kernel
theorem dX3_tell_26 : decode cX3_tell 26 = .ok (.istore_n 3, 1) := by decide +kernel
theorem dX3_tell_27 : decode cX3_tell 27 = .ok (.iload_n 3, 1) := by decide +kernel
theorem dX3_tell_28 : decode cX3_tell 28 = .ok (.sipush 200, 3) := by decide +kernel
theorem dX3_tell_31 : decode cX3_tell 31 = .ok (.if_icmp .gt 39, 3) := by decide +kernel
theorem dX3_tell_34 : decode cX3_tell 34 = .ok (.aload_n 0, 1) := by decide +kernel
theorem dX3_tell_35 : decode cX3_tell 35 = .ok (.getfield 37, 3) := by decide +kernel
theorem dX3_tell_38 : decode cX3_tell 38 = .ok (.ifCond .eq 32, 3) := by decide +kernel
theorem dX3_tell_41 : decode cX3_tell 41 = .ok (.aload_n 0, 1) := by decide +kernel
theorem dX3_tell_42 : decode cX3_tell 42 = .ok (.aload_n 1, 1) := by decide +kernel
theorem dX3_tell_43 : decode cX3_tell 43 = .ok (.invokevirtual 40, 3) := by decide +kernel
theorem dX3_tell_46 : decode cX3_tell 46 = .ok (.ifCond .ne 11, 3) := by decide +kernel
theorem dX3_tell_49 : decode cX3_tell 49 = .ok (.bipush (-10), 2) := by decide +kernel
theorem dX3_tell_51 : decode cX3_tell 51 = .ok (.aload_n 0, 1) := by decide +kernel
theorem dX3_tell_52 : decode cX3_tell 52 = .ok (.getfield 44, 3) := by decide +kernel
theorem dX3_tell_55 : decode cX3_tell 55 = .ok (.isub, 1) := by decide +kernel
theorem dX3_tell_56 : decode cX3_tell 56 = .ok (.ireturn, 1) := by decide +kernel
theorem dX3_tell_57 : decode cX3_tell 57 = .ok (.iinc 2 1, 3) := by decide +kernel
theorem dX3_tell_60 : decode cX3_tell 60 = .ok (.aload_n 0, 1) := by decide +kernel
theorem dX3_tell_61 : decode cX3_tell 61 = .ok (.invokevirtual 34, 3) := by decide +kernel
theorem dX3_tell_64 : decode cX3_tell 64 = .ok (.iinc 3 1, 3) := by decide +kernel
theorem dX3_tell_67 : decode cX3_tell 67 = .ok (.goto (-40), 3) := by decide +kernel
theorem dX3_tell_70 : decode cX3_tell 70 = .ok (.iload_n 2, 1) := by decide +kernel
theorem dX3_tell_71 : decode cX3_tell 71 = .ok (.ireturn, 1) := by decide +kernel
set_option maxRecDepth 20000 in
theorem ggX3_tellItem_X3_mayBegin : GoodIn wsX3_tellItem wsX3_mayBegin := goodIn_r _ [7, 8, 9, 136, 137, 138, 139, 140, 141, 142, 143, 144, 145, 146, 128, 129, 130, 131, 132, 133, 134, 135] (by decide +kernel) (by decide +kernel)
set_option maxRecDepth 20000 in
theorem gX3_tellItem_X3_mayBegin : GoodIn wsX3_tellItem (wsV RX3 50 RX3 yX3_mayBegin wsX3_mayBegin) := goodIn_app (goodIn_of _ (by decide +kernel)) ggX3_tellItem_X3_mayBegin
set_option maxRecDepth 20000 in
theorem ggX3_tellItem_X3_nextToken : GoodIn wsX3_tellItem wsX3_nextToken := goodIn_r _ [13, 14, 15, 16, 1, 17, 18, 19, 6, 20, 21, 22, 23, 24, 25, 26, 27, 28, 2, 29, 30, 31, 32, 33, 34, 35, 36, 37, 38, 39, 40, 41, 42, 43, 44, 45, 46, 47, 48, 49, 50, 51, 52, 53, 54, 55, 56, 57, 58, 59, 60, 61, 62, 63, 64, 65, 66, 67, 68, 69, 70, 71, 72, 73, 74, 75, 76, 77, 78, 79, 80, 81, 82, 83, 84, 85, 86, 87, 88, 89, 90, 91, 92, 93, 94, 95, 128, 129, 130, 131, 132, 133, 134, 135] (by decide +kernel) (by decide +kernel)
set_option maxRecDepth 20000 in
theorem gX3_tellItem_X3_nextToken : GoodIn wsX3_tellItem (wsV RX3 34 RX3 yX3_nextToken wsX3_nextToken) := goodIn_app (goodIn_of _ (by decide +kernel)) ggX3_tellItem_X3_nextToken
set_option maxRecDepth 20000 in
theorem ggX3_tellItem_X3_mayBeFirst : GoodIn wsX3_tellItem wsX3_mayBeFirst := goodIn_r _ [98, 99, 100, 101, 102, 103, 104, 105, 106, 107, 108, 136, 137, 138, 139, 140, 141, 142, 143, 144, 145, 146] (by decide +kernel) (by decide +kernel)
set_option maxRecDepth 20000 in
theorem gX3_tellItem_X3_mayBeFirst : GoodIn wsX3_tellItem (va_wsS RX3 54 yX3_mayBeFirst wsX3_mayBeFirst) := goodIn_app (goodIn_of _ (by decide +kernel)) ggX3_tellItem_X3_mayBeFirst
set_option maxRecDepth 20000 in
theorem ggX3_tellItem_X3_apply : GoodIn wsX3_tellItem wsX3_apply := goodIn_r _ [112, 8, 9, 113, 114, 6, 115, 116, 103, 117, 118, 119, 120, 121, 122, 123, 106, 124, 125, 126, 100, 127, 136, 137, 138, 139, 140, 141, 142, 143, 144, 145, 146, 128, 129, 130, 131, 132, 133, 134, 135] (by decide +kernel) (by decide +kernel)
set_option maxRecDepth 20000 in
theorem gX3_tellItem_X3_apply : GoodIn wsX3_tellItem (wsV RX3 58 RX3 yX3_apply wsX3_apply) := goodIn_app (goodIn_of _ (by decide +kernel)) ggX3_tellItem_X3_apply
theorem dX3_tellItem_0 : decode cX3_tellItem 0 = .ok (.aload_n 0, 1) := by decide +kernel
theorem dX3_tellItem_1 : decode cX3_tellItem 1 = .ok (.getfield 37, 3) := by decide +kernel
theorem dX3_tellItem_4 : decode cX3_tellItem 4 = .ok (.iconst 1, 1) := by decide +kernel
theorem dX3_tellItem_5 : decode cX3_tellItem 5 = .ok (.if_icmp .ne 15, 3) := by decide +kernel
theorem dX3_tellItem_8 : decode cX3_tellItem 8 = .ok (.aload_n 0, 1) := by decide +kernel
theorem dX3_tellItem_9 : decode cX3_tellItem 9 = .ok (.aload_n 0, 1) := by decide +kernel
theorem dX3_tellItem_10 : decode cX3_tellItem 10 = .ok (.getfield 47, 3) := by decide +kernel
theorem dX3_tellItem_13 : decode cX3_tellItem 13 = .ok (.aload_n 1, 1) := by decide +kernel
theorem dX3_tellItem_14 : decode cX3_tellItem 14 = .ok (.invokevirtual 50, 3) := by decide +kernel
theorem dX3_tellItem_17 : decode cX3_tellItem 17 = .ok (.ifCond .ne 5, 3) := by decide +kernel
theorem dX3_tellItem_20 : decode cX3_tellItem 20 = .ok (.iconst 0, 1) := by decide +kernel
theorem dX3_tellItem_21 : decode cX3_tellItem 21 = .ok (.ireturn, 1) := by decide +kernel
theorem dX3_tellItem_22 : decode cX3_tellItem 22 = .ok (.aload_n 0, 1) := by decide +kernel
theorem dX3_tellItem_23 : decode cX3_tellItem 23 = .ok (.getfield 47, 3) := by decide +kernel
theorem dX3_tellItem_26 : decode cX3_tellItem 26 = .ok (.istore_n 2, 1) := by decide +kernel
theorem dX3_tellItem_27 : decode cX3_tellItem 27 = .ok (.aload_n 0, 1) := by decide +kernel
theorem dX3_tellItem_28 : decode cX3_tellItem 28 = .ok (.invokevirtual 34, 3) := by decide +kernel
theorem dX3_tellItem_31 : decode cX3_tellItem 31 = .ok (.aload_n 0, 1) := by decide +kernel
theorem dX3_tellItem_32 : decode cX3_tellItem 32 = .ok (.getfield 37, 3) := by decide +kernel
theorem dX3_tellItem_35 : decode cX3_tellItem 35 = .ok (.iconst 2, 1) := by decide +kernel
theorem dX3_tellItem_36 : decode cX3_tellItem 36 = .ok (.if_icmp .ne 15, 3) := by decide +kernel
theorem dX3_tellItem_39 : decode cX3_tellItem 39 = .ok (.iload_n 2, 1) := by decide +kernel
theorem dX3_tellItem_40 : decode cX3_tellItem 40 = .ok (.aload_n 0, 1) := by decide +kernel
theorem dX3_tellItem_41 : decode cX3_tellItem 41 = .ok (.getfield 47, 3) := by decide +kernel
theorem dX3_tellItem_44 : decode cX3_tellItem 44 = .ok (.aload_n 1, 1) := by decide +kernel
theorem dX3_tellItem_45 : decode cX3_tellItem 45 = .ok (.invokestatic 54, 3) := by decide +kernel
theorem dX3_tellItem_48 : decode cX3_tellItem 48 = .ok (.ifCond .ne 5, 3) := by decide +kernel
theorem dX3_tellItem_51 : decode cX3_tellItem 51 = .ok (.iconst 0, 1) := by decide +kernel
theorem dX3_tellItem_52 : decode cX3_tellItem 52 = .ok (.ireturn, 1) := by decide +kernel
theorem dX3_tellItem_53 : decode cX3_tellItem 53 = .ok (.aload_n 0, 1) := by decide +kernel
theorem dX3_tellItem_54 : decode cX3_tellItem 54 = .ok (.getfield 47, 3) := by decide +kernel
theorem dX3_tellItem_57 : decode cX3_tellItem 57 = .ok (.istore_n 3, 1) := by decide +kernel
theorem dX3_tellItem_58 : decode cX3_tellItem 58 = .ok (.iconst 1, 1) := by decide +kernel
theorem dX3_tellItem_59 : decode cX3_tellItem 59 = .ok (.istore 4, 2) := by decide +kernel
theorem dX3_tellItem_61 : decode cX3_tellItem 61 = .ok (.iload_n 2, 1) := by decide +kernel
theorem dX3_tellItem_62 : decode cX3_tellItem 62 = .ok (.iconst 4, 1) := by decide +kernel
theorem dX3_tellItem_63 : decode cX3_tellItem 63 = .ok (.if_icmp .eq 14, 3) := by decide +kernel
theorem dX3_tellItem_66 : decode cX3_tellItem 66 = .ok (.iload_n 2, 1) := by decide +kernel
theorem dX3_tellItem_67 : decode cX3_tellItem 67 = .ok (.iconst 5, 1) := by decide +kernel
theorem dX3_tellItem_68 : decode cX3_tellItem 68 = .ok (.if_icmp .eq 9, 3) := by decide +kernel
theorem dX3_tellItem_71 : decode cX3_tellItem 71 = .ok (.iload_n 2, 1) := by decide +kernel
theorem dX3_tellItem_72 : decode cX3_tellItem 72 = .ok (.bipush 6, 2) := by decide +kernel
theorem dX3_tellItem_74 : decode cX3_tellItem 74 = .ok (.if_icmp .ne 40, 3) := by decide +kernel
theorem dX3_tellItem_77 : decode cX3_tellItem 77 = .ok (.aload_n 0, 1) := by decide +kernel
theorem dX3_tellItem_78 : decode cX3_tellItem 78 = .ok (.invokevirtual 34, 3) := by decide +kernel
theorem dX3_tellItem_81 : decode cX3_tellItem 81 = .ok (.aload_n 0, 1) := by decide +kernel
theorem dX3_tellItem_82 : decode cX3_tellItem 82 = .ok (.getfield 37, 3) := by decide +kernel
theorem dX3_tellItem_85 : decode cX3_tellItem 85 = .ok (.iconst 2, 1) := by decide +kernel
theorem dX3_tellItem_86 : decode cX3_tellItem 86 = .ok (.if_icmp .ne 20, 3) := by decide +kernel
theorem dX3_tellItem_89 : decode cX3_tellItem 89 = .ok (.aload_n 0, 1) := by decide +kernel
theorem dX3_tellItem_90 : decode cX3_tellItem 90 = .ok (.getfield 47, 3) := by decide +kernel
theorem dX3_tellItem_93 : decode cX3_tellItem 93 = .ok (.iconst 1, 1) := by decide +kernel
theorem dX3_tellItem_94 : decode cX3_tellItem 94 = .ok (.if_icmp .lt 12, 3) := by decide +kernel
theorem dX3_tellItem_97 : decode cX3_tellItem 97 = .ok (.aload_n 0, 1) := by decide +kernel
theorem dX3_tellItem_98 : decode cX3_tellItem 98 = .ok (.getfield 47, 3) := by decide +kernel
theorem dX3_tellItem_101 : decode cX3_tellItem 101 = .ok (.bipush 8, 2) := by decide +kernel
theorem dX3_tellItem_103 : decode cX3_tellItem 103 = .ok (.if_icmp .le 5, 3) := by decide +kernel
theorem dX3_tellItem_106 : decode cX3_tellItem 106 = .ok (.iconst 0, 1) := by decide +kernel
theorem dX3_tellItem_107 : decode cX3_tellItem 107 = .ok (.ireturn, 1) := by decide +kernel
theorem dX3_tellItem_108 : decode cX3_tellItem 108 = .ok (.aload_n 0, 1) := by decide +kernel
theorem dX3_tellItem_109 : decode cX3_tellItem 109 = .ok (.getfield 47, 3) := by decide +kernel
theorem dX3_tellItem_112 : decode cX3_tellItem 112 = .ok (.istore 4, 2) := by decide +kernel
theorem dX3_tellItem_114 : decode cX3_tellItem 114 = .ok (.aload_n 0, 1) := by decide +kernel
theorem dX3_tellItem_115 : decode cX3_tellItem 115 = .ok (.invokevirtual 34, 3) := by decide +kernel
theorem dX3_tellItem_118 : decode cX3_tellItem 118 = .ok (.aload_n 0, 1) := by decide +kernel
theorem dX3_tellItem_119 : decode cX3_tellItem 119 = .ok (.getfield 37, 3) := by decide +kernel
theorem dX3_tellItem_122 : decode cX3_tellItem 122 = .ok (.iconst 3, 1) := by decide +kernel
theorem dX3_tellItem_123 : decode cX3_tellItem 123 = .ok (.if_icmp .eq 5, 3) := by decide +kernel
theorem dX3_tellItem_126 : decode cX3_tellItem 126 = .ok (.iconst 0, 1) := by decide +kernel
theorem dX3_tellItem_127 : decode cX3_tellItem 127 = .ok (.ireturn, 1) := by decide +kernel
theorem dX3_tellItem_128 : decode cX3_tellItem 128 = .ok (.aload_n 0, 1) := by decide +kernel
theorem dX3_tellItem_129 : decode cX3_tellItem 129 = .ok (.iload_n 2, 1) := by decide +kernel
theorem dX3_tellItem_130 : decode cX3_tellItem 130 = .ok (.iload_n 3, 1) := by decide +kernel
theorem dX3_tellItem_131 : decode cX3_tellItem 131 = .ok (.iload 4, 2) := by decide +kernel
theorem dX3_tellItem_133 : decode cX3_tellItem 133 = .ok (.aload_n 1, 1) := by decide +kernel
theorem dX3_tellItem_134 : decode cX3_tellItem 134 = .ok (.invokevirtual 58, 3) := by decide +kernel
theorem dX3_tellItem_137 : decode cX3_tellItem 137 = .ok (.iconst 1, 1) := by decide +kernel
theorem dX3_tellItem_138 : decode cX3_tellItem 138 = .ok (.ireturn, 1) := by decide +kernel
theorem dX3_mayBegin_0 : decode cX3_mayBegin 0 = .ok (.iload_n 1, 1) := by decide +kernel
theorem dX3_mayBegin_1 : decode cX3_mayBegin 1 = .ok (.tableswitch 115 4 10 #[43, 57, 57, 59, 74, 89, 102], 43) := by decide +kernel
theorem dX3_mayBegin_44 : decode cX3_mayBegin 44 = .ok (.aload_n 2, 1) := by decide +kernel
theorem dX3_mayBegin_45 : decode cX3_mayBegin 45 = .ok (.getfield 62, 3) := by decide +kernel
theorem dX3_mayBegin_48 : decode cX3_mayBegin 48 = .ok (.iconst 2, 1) := by decide +kernel
theorem dX3_mayBegin_49 : decode cX3_mayBegin 49 = .ok (.if_icmp .ge 7, 3) := by decide +kernel
theorem dX3_mayBegin_52 : decode cX3_mayBegin 52 = .ok (.iconst 1, 1) := by decide +kernel
theorem dX3_mayBegin_53 : decode cX3_mayBegin 53 = .ok (.goto 4, 3) := by decide +kernel
theorem dX3_mayBegin_56 : decode cX3_mayBegin 56 = .ok (.iconst 0, 1) := by decide +kernel
theorem dX3_mayBegin_57 : decode cX3_mayBegin 57 = .ok (.ireturn, 1) := by decide +kernel
theorem dX3_mayBegin_58 : decode cX3_mayBegin 58 = .ok (.iconst 1, 1) := by decide +kernel
theorem dX3_mayBegin_59 : decode cX3_mayBegin 59 = .ok (.ireturn, 1) := by decide +kernel
theorem dX3_mayBegin_60 : decode cX3_mayBegin 60 = .ok (.aload_n 2, 1) := by decide +kernel
theorem dX3_mayBegin_61 : decode cX3_mayBegin 61 = .ok (.getfield 65, 3) := by decide +kernel
theorem dX3_mayBegin_64 : decode cX3_mayBegin 64 = .ok (.bipush (-9), 2) := by decide +kernel
theorem dX3_mayBegin_66 : decode cX3_mayBegin 66 = .ok (.if_icmp .ne 7, 3) := by decide +kernel
theorem dX3_mayBegin_69 : decode cX3_mayBegin 69 = .ok (.iconst 1, 1) := by decide +kernel
theorem dX3_mayBegin_70 : decode cX3_mayBegin 70 = .ok (.goto 4, 3) := by decide +kernel
theorem dX3_mayBegin_73 : decode cX3_mayBegin 73 = .ok (.iconst 0, 1) := by decide +kernel
theorem dX3_mayBegin_74 : decode cX3_mayBegin 74 = .ok (.ireturn, 1) := by decide +kernel
theorem dX3_mayBegin_75 : decode cX3_mayBegin 75 = .ok (.aload_n 2, 1) := by decide +kernel
theorem dX3_mayBegin_76 : decode cX3_mayBegin 76 = .ok (.getfield 68, 3) := by decide +kernel
theorem dX3_mayBegin_79 : decode cX3_mayBegin 79 = .ok (.bipush (-9), 2) := by decide +kernel
theorem dX3_mayBegin_81 : decode cX3_mayBegin 81 = .ok (.if_icmp .ne 7, 3) := by decide +kernel
theorem dX3_mayBegin_84 : decode cX3_mayBegin 84 = .ok (.iconst 1, 1) := by decide +kernel
theorem dX3_mayBegin_85 : decode cX3_mayBegin 85 = .ok (.goto 4, 3) := by decide +kernel
theorem dX3_mayBegin_88 : decode cX3_mayBegin 88 = .ok (.iconst 0, 1) := by decide +kernel
theorem dX3_mayBegin_89 : decode cX3_mayBegin 89 = .ok (.ireturn, 1) := by decide +kernel
theorem dX3_mayBegin_90 : decode cX3_mayBegin 90 = .ok (.aload_n 0, 1) := by decide +kernel
theorem dX3_mayBegin_91 : decode cX3_mayBegin 91 = .ok (.getfield 24, 3) := by decide +kernel
theorem dX3_mayBegin_94 : decode cX3_mayBegin 94 = .ok (.ifCond .ne 7, 3) := by decide +kernel
theorem dX3_mayBegin_97 : decode cX3_mayBegin 97 = .ok (.iconst 1, 1) := by decide +kernel
theorem dX3_mayBegin_98 : decode cX3_mayBegin 98 = .ok (.goto 4, 3) := by decide +kernel
theorem dX3_mayBegin_101 : decode cX3_mayBegin 101 = .ok (.iconst 0, 1) := by decide +kernel
theorem dX3_mayBegin_102 : decode cX3_mayBegin 102 = .ok (.ireturn, 1) := by decide +kernel
theorem dX3_mayBegin_103 : decode cX3_mayBegin 103 = .ok (.aload_n 0, 1) := by decide +kernel
theorem dX3_mayBegin_104 : decode cX3_mayBegin 104 = .ok (.getfield 28, 3) := by decide +kernel
theorem dX3_mayBegin_107 : decode cX3_mayBegin 107 = .ok (.ifCond .ne 7, 3) := by decide +kernel
theorem dX3_mayBegin_110 : decode cX3_mayBegin 110 = .ok (.iconst 1, 1) := by decide +kernel
theorem dX3_mayBegin_111 : decode cX3_mayBegin 111 = .ok (.goto 4, 3) := by decide +kernel
theorem dX3_mayBegin_114 : decode cX3_mayBegin 114 = .ok (.iconst 0, 1) := by decide +kernel
theorem dX3_mayBegin_115 : decode cX3_mayBegin 115 = .ok (.ireturn, 1) := by decide +kernel
theorem dX3_mayBegin_116 : decode cX3_mayBegin 116 = .ok (.aload_n 2, 1) := by decide +kernel
theorem dX3_mayBegin_117 : decode cX3_mayBegin 117 = .ok (.getfield 71, 3) := by decide +kernel
theorem dX3_mayBegin_120 : decode cX3_mayBegin 120 = .ok (.iconst 4, 1) := by decide +kernel
theorem dX3_mayBegin_121 : decode cX3_mayBegin 121 = .ok (.if_icmp .ge 7, 3) := by decide +kernel
theorem dX3_mayBegin_124 : decode cX3_mayBegin 124 = .ok (.iconst 1, 1) := by decide +kernel
theorem dX3_mayBegin_125 : decode cX3_mayBegin 125 = .ok (.goto 4, 3) := by decide +kernel
theorem dX3_mayBegin_128 : decode cX3_mayBegin 128 = .ok (.iconst 0, 1) := by decide +kernel
theorem dX3_mayBegin_129 : decode cX3_mayBegin 129 = .ok (.ireturn, 1) := by decide +kernel
set_option maxRecDepth 20000 in
theorem ggX3_mayBeFirst_X4_isSlot : GoodIn wsX3_mayBeFirst wsX4_isSlot := goodIn_r _ [3] (by decide +kernel) (by decide +kernel)
set_option maxRecDepth 20000 in
theorem gX3_mayBeFirst_X4_isSlot_n74 : GoodIn wsX3_mayBeFirst (wsX4_isSlot) := ggX3_mayBeFirst_X4_isSlot
set_option maxRecDepth 20000 in
theorem ggX3_mayBeFirst_X1_panelAt : GoodIn wsX3_mayBeFirst wsX1_panelAt := goodIn_r _ [7, 8, 9, 2, 10, 11, 12, 13, 14, 15, 16, 17, 18, 19, 20, 21] (by decide +kernel) (by decide +kernel)
set_option maxRecDepth 20000 in
theorem gX3_mayBeFirst_X1_panelAt_n81 : GoodIn wsX3_mayBeFirst (wsX1_panelAt) := ggX3_mayBeFirst_X1_panelAt
theorem dX3_mayBeFirst_0 : decode cX3_mayBeFirst 0 = .ok (.iload_n 0, 1) := by decide +kernel
theorem dX3_mayBeFirst_1 : decode cX3_mayBeFirst 1 = .ok (.tableswitch 80 4 10 #[43, 43, 43, 43, 43, 48, 63], 43) := by decide +kernel
theorem dX3_mayBeFirst_44 : decode cX3_mayBeFirst 44 = .ok (.iload_n 1, 1) := by decide +kernel
theorem dX3_mayBeFirst_45 : decode cX3_mayBeFirst 45 = .ok (.invokestatic 74, 3) := by decide +kernel
theorem dX3_mayBeFirst_48 : decode cX3_mayBeFirst 48 = .ok (.ireturn, 1) := by decide +kernel
theorem dX3_mayBeFirst_49 : decode cX3_mayBeFirst 49 = .ok (.iload_n 1, 1) := by decide +kernel
theorem dX3_mayBeFirst_50 : decode cX3_mayBeFirst 50 = .ok (.ifCond .lt 12, 3) := by decide +kernel
theorem dX3_mayBeFirst_53 : decode cX3_mayBeFirst 53 = .ok (.iload_n 1, 1) := by decide +kernel
theorem dX3_mayBeFirst_54 : decode cX3_mayBeFirst 54 = .ok (.iconst 4, 1) := by decide +kernel
theorem dX3_mayBeFirst_55 : decode cX3_mayBeFirst 55 = .ok (.if_icmp .gt 7, 3) := by decide +kernel
theorem dX3_mayBeFirst_58 : decode cX3_mayBeFirst 58 = .ok (.iconst 1, 1) := by decide +kernel
theorem dX3_mayBeFirst_59 : decode cX3_mayBeFirst 59 = .ok (.goto 4, 3) := by decide +kernel
theorem dX3_mayBeFirst_62 : decode cX3_mayBeFirst 62 = .ok (.iconst 0, 1) := by decide +kernel
theorem dX3_mayBeFirst_63 : decode cX3_mayBeFirst 63 = .ok (.ireturn, 1) := by decide +kernel
theorem dX3_mayBeFirst_64 : decode cX3_mayBeFirst 64 = .ok (.iload_n 1, 1) := by decide +kernel
theorem dX3_mayBeFirst_65 : decode cX3_mayBeFirst 65 = .ok (.iconst 1, 1) := by decide +kernel
theorem dX3_mayBeFirst_66 : decode cX3_mayBeFirst 66 = .ok (.if_icmp .lt 13, 3) := by decide +kernel
theorem dX3_mayBeFirst_69 : decode cX3_mayBeFirst 69 = .ok (.iload_n 1, 1) := by decide +kernel
theorem dX3_mayBeFirst_70 : decode cX3_mayBeFirst 70 = .ok (.bipush 9, 2) := by decide +kernel
theorem dX3_mayBeFirst_72 : decode cX3_mayBeFirst 72 = .ok (.if_icmp .gt 7, 3) := by decide +kernel
theorem dX3_mayBeFirst_75 : decode cX3_mayBeFirst 75 = .ok (.iconst 1, 1) := by decide +kernel
theorem dX3_mayBeFirst_76 : decode cX3_mayBeFirst 76 = .ok (.goto 4, 3) := by decide +kernel
theorem dX3_mayBeFirst_79 : decode cX3_mayBeFirst 79 = .ok (.iconst 0, 1) := by decide +kernel
theorem dX3_mayBeFirst_80 : decode cX3_mayBeFirst 80 = .ok (.ireturn, 1) := by decide +kernel
theorem dX3_mayBeFirst_81 : decode cX3_mayBeFirst 81 = .ok (.iload_n 1, 1) := by decide +kernel
theorem dX3_mayBeFirst_82 : decode cX3_mayBeFirst 82 = .ok (.bipush 8, 2) := by decide +kernel
theorem dX3_mayBeFirst_84 : decode cX3_mayBeFirst 84 = .ok (.if_icmp .eq 24, 3) := by decide +kernel
theorem dX3_mayBeFirst_87 : decode cX3_mayBeFirst 87 = .ok (.iload_n 1, 1) := by decide +kernel
theorem dX3_mayBeFirst_88 : decode cX3_mayBeFirst 88 = .ok (.invokestatic 74, 3) := by decide +kernel
theorem dX3_mayBeFirst_91 : decode cX3_mayBeFirst 91 = .ok (.ifCond .eq 21, 3) := by decide +kernel
theorem dX3_mayBeFirst_94 : decode cX3_mayBeFirst 94 = .ok (.aload_n 2, 1) := by decide +kernel
theorem dX3_mayBeFirst_95 : decode cX3_mayBeFirst 95 = .ok (.aload_n 2, 1) := by decide +kernel
theorem dX3_mayBeFirst_96 : decode cX3_mayBeFirst 96 = .ok (.getfield 78, 3) := by decide +kernel
theorem dX3_mayBeFirst_99 : decode cX3_mayBeFirst 99 = .ok (.iload_n 1, 1) := by decide +kernel
theorem dX3_mayBeFirst_100 : decode cX3_mayBeFirst 100 = .ok (.invokevirtual 81, 3) := by decide +kernel
theorem dX3_mayBeFirst_103 : decode cX3_mayBeFirst 103 = .ok (.bipush (-9), 2) := by decide +kernel
theorem dX3_mayBeFirst_105 : decode cX3_mayBeFirst 105 = .ok (.if_icmp .ne 7, 3) := by decide +kernel
theorem dX3_mayBeFirst_108 : decode cX3_mayBeFirst 108 = .ok (.iconst 1, 1) := by decide +kernel
theorem dX3_mayBeFirst_109 : decode cX3_mayBeFirst 109 = .ok (.goto 4, 3) := by decide +kernel
theorem dX3_mayBeFirst_112 : decode cX3_mayBeFirst 112 = .ok (.iconst 0, 1) := by decide +kernel
theorem dX3_mayBeFirst_113 : decode cX3_mayBeFirst 113 = .ok (.ireturn, 1) := by decide +kernel
set_option maxRecDepth 20000 in
theorem ggX3_apply_X3_slotsFrom : GoodIn wsX3_apply wsX3_slotsFrom := goodIn_r _ [6] (by decide +kernel) (by decide +kernel)
set_option maxRecDepth 20000 in
theorem gX3_apply_X3_slotsFrom : GoodIn wsX3_apply (va_wsS RX3 85 yX3_slotsFrom wsX3_slotsFrom) := goodIn_app (goodIn_of _ (by decide +kernel)) ggX3_apply_X3_slotsFrom
set_option maxRecDepth 20000 in
theorem ggX3_apply_X1_addBeam : GoodIn wsX3_apply wsX1_addBeam := goodIn_r _ [10, 11, 12, 22, 23, 24, 25, 26, 27, 28, 29, 30, 31, 32] (by decide +kernel) (by decide +kernel)
set_option maxRecDepth 20000 in
theorem gX3_apply_X1_addBeam_n88 : GoodIn wsX3_apply (wsX1_addBeam) := ggX3_apply_X1_addBeam
set_option maxRecDepth 20000 in
theorem ggX3_apply_X1_addPanel : GoodIn wsX3_apply wsX1_addPanel := goodIn_r _ [15, 16, 17, 18, 19, 20, 21, 22, 23, 24, 25, 26, 27, 28, 29, 30, 31, 32] (by decide +kernel) (by decide +kernel)
set_option maxRecDepth 20000 in
theorem gX3_apply_X1_addPanel_n104 : GoodIn wsX3_apply (wsX1_addPanel) := ggX3_apply_X1_addPanel
theorem dX3_apply_0 : decode cX3_apply 0 = .ok (.iload_n 1, 1) := by decide +kernel
theorem dX3_apply_1 : decode cX3_apply 1 = .ok (.tableswitch 138 4 10 #[43, 56, 74, 92, 101, 110, 124], 43) := by decide +kernel
theorem dX3_apply_44 : decode cX3_apply 44 = .ok (.aload 4, 2) := by decide +kernel
theorem dX3_apply_46 : decode cX3_apply 46 = .ok (.iload_n 2, 1) := by decide +kernel
theorem dX3_apply_47 : decode cX3_apply 47 = .ok (.iload_n 3, 1) := by decide +kernel
theorem dX3_apply_48 : decode cX3_apply 48 = .ok (.invokestatic 85, 3) := by decide +kernel
theorem dX3_apply_51 : decode cX3_apply 51 = .ok (.invokevirtual 88, 3) := by decide +kernel
theorem dX3_apply_54 : decode cX3_apply 54 = .ok (.goto 92, 3) := by decide +kernel
theorem dX3_apply_57 : decode cX3_apply 57 = .ok (.aload 4, 2) := by decide +kernel
theorem dX3_apply_59 : decode cX3_apply 59 = .ok (.dup, 1) := by decide +kernel
theorem dX3_apply_60 : decode cX3_apply 60 = .ok (.getfield 92, 3) := by decide +kernel
theorem dX3_apply_63 : decode cX3_apply 63 = .ok (.iload_n 2, 1) := by decide +kernel
theorem dX3_apply_64 : decode cX3_apply 64 = .ok (.iload_n 3, 1) := by decide +kernel
theorem dX3_apply_65 : decode cX3_apply 65 = .ok (.invokestatic 85, 3) := by decide +kernel
theorem dX3_apply_68 : decode cX3_apply 68 = .ok (.ior, 1) := by decide +kernel
theorem dX3_apply_69 : decode cX3_apply 69 = .ok (.putfield 92, 3) := by decide +kernel
theorem dX3_apply_72 : decode cX3_apply 72 = .ok (.goto 74, 3) := by decide +kernel
theorem dX3_apply_75 : decode cX3_apply 75 = .ok (.aload 4, 2) := by decide +kernel
theorem dX3_apply_77 : decode cX3_apply 77 = .ok (.dup, 1) := by decide +kernel
theorem dX3_apply_78 : decode cX3_apply 78 = .ok (.getfield 95, 3) := by decide +kernel
theorem dX3_apply_81 : decode cX3_apply 81 = .ok (.iload_n 2, 1) := by decide +kernel
theorem dX3_apply_82 : decode cX3_apply 82 = .ok (.iload_n 3, 1) := by decide +kernel
theorem dX3_apply_83 : decode cX3_apply 83 = .ok (.invokestatic 85, 3) := by decide +kernel
theorem dX3_apply_86 : decode cX3_apply 86 = .ok (.ior, 1) := by decide +kernel
theorem dX3_apply_87 : decode cX3_apply 87 = .ok (.putfield 95, 3) := by decide +kernel
theorem dX3_apply_90 : decode cX3_apply 90 = .ok (.goto 56, 3) := by decide +kernel
theorem dX3_apply_93 : decode cX3_apply 93 = .ok (.aload 4, 2) := by decide +kernel
theorem dX3_apply_95 : decode cX3_apply 95 = .ok (.iload_n 2, 1) := by decide +kernel
theorem dX3_apply_96 : decode cX3_apply 96 = .ok (.putfield 65, 3) := by decide +kernel
theorem dX3_apply_99 : decode cX3_apply 99 = .ok (.goto 47, 3) := by decide +kernel
theorem dX3_apply_102 : decode cX3_apply 102 = .ok (.aload 4, 2) := by decide +kernel
theorem dX3_apply_104 : decode cX3_apply 104 = .ok (.iload_n 2, 1) := by decide +kernel
theorem dX3_apply_105 : decode cX3_apply 105 = .ok (.putfield 68, 3) := by decide +kernel
theorem dX3_apply_108 : decode cX3_apply 108 = .ok (.goto 38, 3) := by decide +kernel
theorem dX3_apply_111 : decode cX3_apply 111 = .ok (.aload 4, 2) := by decide +kernel
theorem dX3_apply_113 : decode cX3_apply 113 = .ok (.iload_n 2, 1) := by decide +kernel
theorem dX3_apply_114 : decode cX3_apply 114 = .ok (.putfield 98, 3) := by decide +kernel
theorem dX3_apply_117 : decode cX3_apply 117 = .ok (.aload_n 0, 1) := by decide +kernel
theorem dX3_apply_118 : decode cX3_apply 118 = .ok (.iconst 1, 1) := by decide +kernel
theorem dX3_apply_119 : decode cX3_apply 119 = .ok (.putfield 24, 3) := by decide +kernel
theorem dX3_apply_122 : decode cX3_apply 122 = .ok (.goto 24, 3) := by decide +kernel
theorem dX3_apply_125 : decode cX3_apply 125 = .ok (.aload 4, 2) := by decide +kernel
theorem dX3_apply_127 : decode cX3_apply 127 = .ok (.iload_n 2, 1) := by decide +kernel
theorem dX3_apply_128 : decode cX3_apply 128 = .ok (.putfield 101, 3) := by decide +kernel
theorem dX3_apply_131 : decode cX3_apply 131 = .ok (.aload_n 0, 1) := by decide +kernel
theorem dX3_apply_132 : decode cX3_apply 132 = .ok (.iconst 1, 1) := by decide +kernel
theorem dX3_apply_133 : decode cX3_apply 133 = .ok (.putfield 28, 3) := by decide +kernel
theorem dX3_apply_136 : decode cX3_apply 136 = .ok (.goto 10, 3) := by decide +kernel
theorem dX3_apply_139 : decode cX3_apply 139 = .ok (.aload 4, 2) := by decide +kernel
theorem dX3_apply_141 : decode cX3_apply 141 = .ok (.iload_n 1, 1) := by decide +kernel
theorem dX3_apply_142 : decode cX3_apply 142 = .ok (.iload_n 2, 1) := by decide +kernel
theorem dX3_apply_143 : decode cX3_apply 143 = .ok (.invokevirtual 104, 3) := by decide +kernel
theorem dX3_apply_146 : decode cX3_apply 146 = .ok (.return_, 1) := by decide +kernel
theorem dX3_slotsFrom_0 : decode cX3_slotsFrom 0 = .ok (.iconst 0, 1) := by decide +kernel
theorem dX3_slotsFrom_1 : decode cX3_slotsFrom 1 = .ok (.istore_n 2, 1) := by decide +kernel
theorem dX3_slotsFrom_2 : decode cX3_slotsFrom 2 = .ok (.iconst 0, 1) := by decide +kernel
theorem dX3_slotsFrom_3 : decode cX3_slotsFrom 3 = .ok (.istore_n 3, 1) := by decide +kernel
theorem dX3_slotsFrom_4 : decode cX3_slotsFrom 4 = .ok (.iload_n 3, 1) := by decide +kernel
theorem dX3_slotsFrom_5 : decode cX3_slotsFrom 5 = .ok (.iload_n 1, 1) := by decide +kernel
theorem dX3_slotsFrom_6 : decode cX3_slotsFrom 6 = .ok (.if_icmp .ge 26, 3) := by decide +kernel
theorem dX3_slotsFrom_9 : decode cX3_slotsFrom 9 = .ok (.iload_n 3, 1) := by decide +kernel
theorem dX3_slotsFrom_10 : decode cX3_slotsFrom 10 = .ok (.bipush 8, 2) := by decide +kernel
theorem dX3_slotsFrom_12 : decode cX3_slotsFrom 12 = .ok (.if_icmp .ge 20, 3) := by decide +kernel
theorem dX3_slotsFrom_15 : decode cX3_slotsFrom 15 = .ok (.iload_n 2, 1) := by decide +kernel
theorem dX3_slotsFrom_16 : decode cX3_slotsFrom 16 = .ok (.iconst 1, 1) := by decide +kernel
theorem dX3_slotsFrom_17 : decode cX3_slotsFrom 17 = .ok (.iload_n 0, 1) := by decide +kernel
theorem dX3_slotsFrom_18 : decode cX3_slotsFrom 18 = .ok (.iload_n 3, 1) := by decide +kernel
theorem dX3_slotsFrom_19 : decode cX3_slotsFrom 19 = .ok (.iadd, 1) := by decide +kernel
theorem dX3_slotsFrom_20 : decode cX3_slotsFrom 20 = .ok (.bipush 8, 2) := by decide +kernel
theorem dX3_slotsFrom_22 : decode cX3_slotsFrom 22 = .ok (.irem, 1) := by decide +kernel
theorem dX3_slotsFrom_23 : decode cX3_slotsFrom 23 = .ok (.ishl, 1) := by decide +kernel
theorem dX3_slotsFrom_24 : decode cX3_slotsFrom 24 = .ok (.ior, 1) := by decide +kernel
theorem dX3_slotsFrom_25 : decode cX3_slotsFrom 25 = .ok (.istore_n 2, 1) := by decide +kernel
theorem dX3_slotsFrom_26 : decode cX3_slotsFrom 26 = .ok (.iinc 3 1, 3) := by decide +kernel
theorem dX3_slotsFrom_29 : decode cX3_slotsFrom 29 = .ok (.goto (-25), 3) := by decide +kernel
theorem dX3_slotsFrom_32 : decode cX3_slotsFrom 32 = .ok (.iload_n 2, 1) := by decide +kernel
theorem dX3_slotsFrom_33 : decode cX3_slotsFrom 33 = .ok (.ireturn, 1) := by decide +kernel
set_option maxRecDepth 20000 in
theorem ggX3_nextToken_X3_byteAt : GoodIn wsX3_nextToken wsX3_byteAt := goodIn_r _ [9, 2, 10, 86, 87, 88, 89, 90, 91, 92, 93] (by decide +kernel) (by decide +kernel)
set_option maxRecDepth 20000 in
theorem gX3_nextToken_X3_byteAt : GoodIn wsX3_nextToken (wsV RX3 108 RX3 yX3_byteAt wsX3_byteAt) := goodIn_app (goodIn_of _ (by decide +kernel)) ggX3_nextToken_X3_byteAt
set_option maxRecDepth 20000 in
theorem ggX3_nextToken_X3_isLetter : GoodIn wsX3_nextToken wsX3_isLetter := goodIn_r _ [13] (by decide +kernel) (by decide +kernel)
set_option maxRecDepth 20000 in
theorem gX3_nextToken_X3_isLetter : GoodIn wsX3_nextToken (va_wsS RX3 112 yX3_isLetter wsX3_isLetter) := goodIn_app (goodIn_of _ (by decide +kernel)) ggX3_nextToken_X3_isLetter
set_option maxRecDepth 20000 in
theorem ggX3_nextToken_X3_readWord : GoodIn wsX3_nextToken wsX3_readWord := goodIn_r _ [17, 1, 2, 4, 18, 5, 6, 7, 8, 9, 10, 11, 12, 13, 19, 20, 21, 22, 23, 24, 25, 3, 26, 27, 28, 29, 30, 31, 32, 33, 34, 35, 36, 37, 38, 39, 40, 41, 42, 43, 44, 45, 46, 47, 48, 49, 50, 51, 52, 53, 54, 55, 56, 57, 58, 59, 60, 61, 62, 63, 64, 65, 66, 67, 68, 69, 70, 71, 72, 73, 74, 86, 87, 88, 89, 90, 91, 92, 93] (by decide +kernel) (by decide +kernel)
set_option maxRecDepth 20000 in
theorem gX3_nextToken_X3_readWord : GoodIn wsX3_nextToken (wsV RX3 115 RX3 yX3_readWord wsX3_readWord) := goodIn_app (goodIn_of _ (by decide +kernel)) ggX3_nextToken_X3_readWord
set_option maxRecDepth 20000 in
theorem ggX3_nextToken_X3_isDigit : GoodIn wsX3_nextToken wsX3_isDigit := goodIn_r _ [77] (by decide +kernel) (by decide +kernel)
set_option maxRecDepth 20000 in
theorem gX3_nextToken_X3_isDigit : GoodIn wsX3_nextToken (va_wsS RX3 118 yX3_isDigit wsX3_isDigit) := goodIn_app (goodIn_of _ (by decide +kernel)) ggX3_nextToken_X3_isDigit
set_option maxRecDepth 20000 in
theorem ggX3_nextToken_X3_readNumber : GoodIn wsX3_nextToken wsX3_readNumber := goodIn_r _ [81, 18, 1, 2, 82, 83, 84, 85, 3, 4, 5, 6, 7, 8, 9, 10, 75, 76, 77, 86, 87, 88, 89, 90, 91, 92, 93] (by decide +kernel) (by decide +kernel)
set_option maxRecDepth 20000 in
theorem gX3_nextToken_X3_readNumber : GoodIn wsX3_nextToken (wsV RX3 121 RX3 yX3_readNumber wsX3_readNumber) := goodIn_app (goodIn_of _ (by decide +kernel)) ggX3_nextToken_X3_readNumber
theorem dX3_nextToken_0 : decode cX3_nextToken 0 = .ok (.aload_n 0, 1) := by decide +kernel
theorem dX3_nextToken_1 : decode cX3_nextToken 1 = .ok (.getfield 31, 3) := by decide +kernel
theorem dX3_nextToken_4 : decode cX3_nextToken 4 = .ok (.aload_n 0, 1) := by decide +kernel
theorem dX3_nextToken_5 : decode cX3_nextToken 5 = .ok (.getfield 15, 3) := by decide +kernel
theorem dX3_nextToken_8 : decode cX3_nextToken 8 = .ok (.if_icmp .ge 29, 3) := by decide +kernel
theorem dX3_nextToken_11 : decode cX3_nextToken 11 = .ok (.aload_n 0, 1) := by decide +kernel
theorem dX3_nextToken_12 : decode cX3_nextToken 12 = .ok (.aload_n 0, 1) := by decide +kernel
theorem dX3_nextToken_13 : decode cX3_nextToken 13 = .ok (.getfield 31, 3) := by decide +kernel
theorem dX3_nextToken_16 : decode cX3_nextToken 16 = .ok (.invokevirtual 108, 3) := by decide +kernel
theorem dX3_nextToken_19 : decode cX3_nextToken 19 = .ok (.bipush 32, 2) := by decide +kernel
theorem dX3_nextToken_21 : decode cX3_nextToken 21 = .ok (.if_icmp .ne 16, 3) := by decide +kernel
theorem dX3_nextToken_24 : decode cX3_nextToken 24 = .ok (.aload_n 0, 1) := by decide +kernel
theorem dX3_nextToken_25 : decode cX3_nextToken 25 = .ok (.dup, 1) := by decide +kernel
theorem dX3_nextToken_26 : decode cX3_nextToken 26 = .ok (.getfield 31, 3) := by decide +kernel
theorem dX3_nextToken_29 : decode cX3_nextToken 29 = .ok (.iconst 1, 1) := by decide +kernel
theorem dX3_nextToken_30 : decode cX3_nextToken 30 = .ok (.iadd, 1) := by decide +kernel
theorem dX3_nextToken_31 : decode cX3_nextToken 31 = .ok (.putfield 31, 3) := by decide +kernel
theorem dX3_nextToken_34 : decode cX3_nextToken 34 = .ok (.goto (-34), 3) := by decide +kernel
theorem dX3_nextToken_37 : decode cX3_nextToken 37 = .ok (.aload_n 0, 1) := by decide +kernel
theorem dX3_nextToken_38 : decode cX3_nextToken 38 = .ok (.aload_n 0, 1) := by decide +kernel
theorem dX3_nextToken_39 : decode cX3_nextToken 39 = .ok (.getfield 31, 3) := by decide +kernel
theorem dX3_nextToken_42 : decode cX3_nextToken 42 = .ok (.putfield 44, 3) := by decide +kernel
theorem dX3_nextToken_45 : decode cX3_nextToken 45 = .ok (.aload_n 0, 1) := by decide +kernel
theorem dX3_nextToken_46 : decode cX3_nextToken 46 = .ok (.aload_n 0, 1) := by decide +kernel
theorem dX3_nextToken_47 : decode cX3_nextToken 47 = .ok (.getfield 31, 3) := by decide +kernel
theorem dX3_nextToken_50 : decode cX3_nextToken 50 = .ok (.invokevirtual 108, 3) := by decide +kernel
theorem dX3_nextToken_53 : decode cX3_nextToken 53 = .ok (.istore_n 1, 1) := by decide +kernel
theorem dX3_nextToken_54 : decode cX3_nextToken 54 = .ok (.iload_n 1, 1) := by decide +kernel
theorem dX3_nextToken_55 : decode cX3_nextToken 55 = .ok (.ifCond .ge 11, 3) := by decide +kernel
theorem dX3_nextToken_58 : decode cX3_nextToken 58 = .ok (.aload_n 0, 1) := by decide +kernel
theorem dX3_nextToken_59 : decode cX3_nextToken 59 = .ok (.iconst 0, 1) := by decide +kernel
theorem dX3_nextToken_60 : decode cX3_nextToken 60 = .ok (.putfield 37, 3) := by decide +kernel
theorem dX3_nextToken_63 : decode cX3_nextToken 63 = .ok (.goto 56, 3) := by decide +kernel
theorem dX3_nextToken_66 : decode cX3_nextToken 66 = .ok (.iload_n 1, 1) := by decide +kernel
theorem dX3_nextToken_67 : decode cX3_nextToken 67 = .ok (.invokestatic 112, 3) := by decide +kernel
theorem dX3_nextToken_70 : decode cX3_nextToken 70 = .ok (.ifCond .eq 10, 3) := by decide +kernel
theorem dX3_nextToken_73 : decode cX3_nextToken 73 = .ok (.aload_n 0, 1) := by decide +kernel
theorem dX3_nextToken_74 : decode cX3_nextToken 74 = .ok (.invokevirtual 115, 3) := by decide +kernel
theorem dX3_nextToken_77 : decode cX3_nextToken 77 = .ok (.goto 42, 3) := by decide +kernel
theorem dX3_nextToken_80 : decode cX3_nextToken 80 = .ok (.iload_n 1, 1) := by decide +kernel
theorem dX3_nextToken_81 : decode cX3_nextToken 81 = .ok (.invokestatic 118, 3) := by decide +kernel
theorem dX3_nextToken_84 : decode cX3_nextToken 84 = .ok (.ifCond .eq 10, 3) := by decide +kernel
theorem dX3_nextToken_87 : decode cX3_nextToken 87 = .ok (.aload_n 0, 1) := by decide +kernel
theorem dX3_nextToken_88 : decode cX3_nextToken 88 = .ok (.invokevirtual 121, 3) := by decide +kernel
theorem dX3_nextToken_91 : decode cX3_nextToken 91 = .ok (.goto 28, 3) := by decide +kernel
theorem dX3_nextToken_94 : decode cX3_nextToken 94 = .ok (.aload_n 0, 1) := by decide +kernel
theorem dX3_nextToken_95 : decode cX3_nextToken 95 = .ok (.iload_n 1, 1) := by decide +kernel
theorem dX3_nextToken_96 : decode cX3_nextToken 96 = .ok (.bipush 59, 2) := by decide +kernel
theorem dX3_nextToken_98 : decode cX3_nextToken 98 = .ok (.if_icmp .ne 7, 3) := by decide +kernel
theorem dX3_nextToken_101 : decode cX3_nextToken 101 = .ok (.iconst 3, 1) := by decide +kernel
theorem dX3_nextToken_102 : decode cX3_nextToken 102 = .ok (.goto 4, 3) := by decide +kernel
theorem dX3_nextToken_105 : decode cX3_nextToken 105 = .ok (.iconst 4, 1) := by decide +kernel
theorem dX3_nextToken_106 : decode cX3_nextToken 106 = .ok (.putfield 37, 3) := by decide +kernel
theorem dX3_nextToken_109 : decode cX3_nextToken 109 = .ok (.aload_n 0, 1) := by decide +kernel
theorem dX3_nextToken_110 : decode cX3_nextToken 110 = .ok (.dup, 1) := by decide +kernel
theorem dX3_nextToken_111 : decode cX3_nextToken 111 = .ok (.getfield 31, 3) := by decide +kernel
theorem dX3_nextToken_114 : decode cX3_nextToken 114 = .ok (.iconst 1, 1) := by decide +kernel
theorem dX3_nextToken_115 : decode cX3_nextToken 115 = .ok (.iadd, 1) := by decide +kernel
theorem dX3_nextToken_116 : decode cX3_nextToken 116 = .ok (.putfield 31, 3) := by decide +kernel
theorem dX3_nextToken_119 : decode cX3_nextToken 119 = .ok (.return_, 1) := by decide +kernel
set_option maxRecDepth 20000 in
theorem ggX3_readWord_X3_byteAt : GoodIn wsX3_readWord wsX3_byteAt := goodIn_r _ [9, 2, 10, 71, 72, 73, 74, 75, 76, 77, 78] (by decide +kernel) (by decide +kernel)
set_option maxRecDepth 20000 in
theorem gX3_readWord_X3_byteAt : GoodIn wsX3_readWord (wsV RX3 108 RX3 yX3_byteAt wsX3_byteAt) := goodIn_app (goodIn_of _ (by decide +kernel)) ggX3_readWord_X3_byteAt
set_option maxRecDepth 20000 in
theorem ggX3_readWord_X3_isLetter : GoodIn wsX3_readWord wsX3_isLetter := goodIn_r _ [13] (by decide +kernel) (by decide +kernel)
set_option maxRecDepth 20000 in
theorem gX3_readWord_X3_isLetter : GoodIn wsX3_readWord (va_wsS RX3 112 yX3_isLetter wsX3_isLetter) := goodIn_app (goodIn_of _ (by decide +kernel)) ggX3_readWord_X3_isLetter
set_option maxRecDepth 20000 in
theorem ggX3_readWord_X3_spelling : GoodIn wsX3_readWord wsX3_spelling := goodIn_r _ [16] (by decide +kernel) (by decide +kernel)
set_option maxRecDepth 20000 in
theorem gX3_readWord_X3_spelling : GoodIn wsX3_readWord (va_wsS RX3 124 yX3_spelling wsX3_spelling) := goodIn_app (goodIn_of _ (by decide +kernel)) ggX3_readWord_X3_spelling
set_option maxRecDepth 20000 in
theorem ggX3_readWord_X3_isSpelled : GoodIn wsX3_readWord wsX3_isSpelled := goodIn_r _ [20, 1, 21, 22, 23, 24, 25, 26, 27, 28, 29, 30, 31, 32, 33, 34, 35, 36, 37, 38, 39, 40, 41, 42, 43, 44, 45, 46, 47, 48, 49, 50, 51, 52, 53, 54, 55, 56, 57, 58, 59, 60, 61, 62, 63, 64, 65, 66, 67, 68, 69, 70, 5, 6, 7, 8, 9, 2, 10, 71, 72, 73, 74, 75, 76, 77, 78] (by decide +kernel) (by decide +kernel)
set_option maxRecDepth 20000 in
theorem gX3_readWord_X3_isSpelled : GoodIn wsX3_readWord (wsV RX3 128 RX3 yX3_isSpelled wsX3_isSpelled) := goodIn_app (goodIn_of _ (by decide +kernel)) ggX3_readWord_X3_isSpelled
theorem dX3_readWord_0 : decode cX3_readWord 0 = .ok (.aload_n 0, 1) := by decide +kernel
theorem dX3_readWord_1 : decode cX3_readWord 1 = .ok (.getfield 31, 3) := by decide +kernel
theorem dX3_readWord_4 : decode cX3_readWord 4 = .ok (.aload_n 0, 1) := by decide +kernel
theorem dX3_readWord_5 : decode cX3_readWord 5 = .ok (.getfield 15, 3) := by decide +kernel
theorem dX3_readWord_8 : decode cX3_readWord 8 = .ok (.if_icmp .ge 30, 3) := by decide +kernel
theorem dX3_readWord_11 : decode cX3_readWord 11 = .ok (.aload_n 0, 1) := by decide +kernel
theorem dX3_readWord_12 : decode cX3_readWord 12 = .ok (.aload_n 0, 1) := by decide +kernel
theorem dX3_readWord_13 : decode cX3_readWord 13 = .ok (.getfield 31, 3) := by decide +kernel
theorem dX3_readWord_16 : decode cX3_readWord 16 = .ok (.invokevirtual 108, 3) := by decide +kernel
theorem dX3_readWord_19 : decode cX3_readWord 19 = .ok (.invokestatic 112, 3) := by decide +kernel
theorem dX3_readWord_22 : decode cX3_readWord 22 = .ok (.ifCond .eq 16, 3) := by decide +kernel
theorem dX3_readWord_25 : decode cX3_readWord 25 = .ok (.aload_n 0, 1) := by decide +kernel
theorem dX3_readWord_26 : decode cX3_readWord 26 = .ok (.dup, 1) := by decide +kernel
theorem dX3_readWord_27 : decode cX3_readWord 27 = .ok (.getfield 31, 3) := by decide +kernel
theorem dX3_readWord_30 : decode cX3_readWord 30 = .ok (.iconst 1, 1) := by decide +kernel
theorem dX3_readWord_31 : decode cX3_readWord 31 = .ok (.iadd, 1) := by decide +kernel
theorem dX3_readWord_32 : decode cX3_readWord 32 = .ok (.putfield 31, 3) := by decide +kernel
theorem dX3_readWord_35 : decode cX3_readWord 35 = .ok (.goto (-35), 3) := by decide +kernel
theorem dX3_readWord_38 : decode cX3_readWord 38 = .ok (.aload_n 0, 1) := by decide +kernel
theorem dX3_readWord_39 : decode cX3_readWord 39 = .ok (.iconst 4, 1) := by decide +kernel
theorem dX3_readWord_40 : decode cX3_readWord 40 = .ok (.putfield 37, 3) := by decide +kernel
theorem dX3_readWord_43 : decode cX3_readWord 43 = .ok (.iconst 0, 1) := by decide +kernel
theorem dX3_readWord_44 : decode cX3_readWord 44 = .ok (.istore_n 1, 1) := by decide +kernel
theorem dX3_readWord_45 : decode cX3_readWord 45 = .ok (.iload_n 1, 1) := by decide +kernel
theorem dX3_readWord_46 : decode cX3_readWord 46 = .ok (.bipush 11, 2) := by decide +kernel
theorem dX3_readWord_48 : decode cX3_readWord 48 = .ok (.if_icmp .ge 30, 3) := by decide +kernel
theorem dX3_readWord_51 : decode cX3_readWord 51 = .ok (.aload_n 0, 1) := by decide +kernel
theorem dX3_readWord_52 : decode cX3_readWord 52 = .ok (.iload_n 1, 1) := by decide +kernel
theorem dX3_readWord_53 : decode cX3_readWord 53 = .ok (.invokestatic 124, 3) := by decide +kernel
theorem dX3_readWord_56 : decode cX3_readWord 56 = .ok (.invokevirtual 128, 3) := by decide +kernel
theorem dX3_readWord_59 : decode cX3_readWord 59 = .ok (.ifCond .eq 13, 3) := by decide +kernel
theorem dX3_readWord_62 : decode cX3_readWord 62 = .ok (.aload_n 0, 1) := by decide +kernel
theorem dX3_readWord_63 : decode cX3_readWord 63 = .ok (.iconst 1, 1) := by decide +kernel
theorem dX3_readWord_64 : decode cX3_readWord 64 = .ok (.putfield 37, 3) := by decide +kernel
theorem dX3_readWord_67 : decode cX3_readWord 67 = .ok (.aload_n 0, 1) := by decide +kernel
theorem dX3_readWord_68 : decode cX3_readWord 68 = .ok (.iload_n 1, 1) := by decide +kernel
theorem dX3_readWord_69 : decode cX3_readWord 69 = .ok (.putfield 47, 3) := by decide +kernel
theorem dX3_readWord_72 : decode cX3_readWord 72 = .ok (.iinc 1 1, 3) := by decide +kernel
theorem dX3_readWord_75 : decode cX3_readWord 75 = .ok (.goto (-30), 3) := by decide +kernel
theorem dX3_readWord_78 : decode cX3_readWord 78 = .ok (.return_, 1) := by decide +kernel
set_option maxRecDepth 20000 in
theorem ggX3_isSpelled_J0_length_8abf5 : GoodIn wsX3_isSpelled wsJ0_length_8abf5 := goodIn_r _ [7, 8, 9, 10, 11, 6, 12, 13, 14] (by decide +kernel) (by decide +kernel)
set_option maxRecDepth 20000 in
theorem gX3_isSpelled_J0_length_8abf5 : GoodIn wsX3_isSpelled (wsV RX3 132 RJ0 yJ0_length_8abf5 wsJ0_length_8abf5) := goodIn_app (goodIn_of _ (by decide +kernel)) ggX3_isSpelled_J0_length_8abf5
set_option maxRecDepth 20000 in
theorem ggX3_isSpelled_J0_charAt_5068e : GoodIn wsX3_isSpelled wsJ0_charAt_5068e := goodIn_r _ [18, 8, 19, 20, 21, 6, 22, 13, 14, 23, 24, 25, 26, 27, 28, 29, 30, 31, 32, 33, 34, 35, 36, 37, 38, 39, 40, 41, 42, 43, 44, 45, 46, 47, 48, 49, 50, 51] (by decide +kernel) (by decide +kernel)
set_option maxRecDepth 20000 in
theorem gX3_isSpelled_J0_charAt_5068e : GoodIn wsX3_isSpelled (wsV RX3 137 RJ0 yJ0_charAt_5068e wsJ0_charAt_5068e) := goodIn_app (goodIn_of _ (by decide +kernel)) ggX3_isSpelled_J0_charAt_5068e
set_option maxRecDepth 20000 in
theorem ggX3_isSpelled_X3_byteAt : GoodIn wsX3_isSpelled wsX3_byteAt := goodIn_r _ [56, 57, 58, 59, 60, 61, 62, 63, 64, 65, 66] (by decide +kernel) (by decide +kernel)
set_option maxRecDepth 20000 in
theorem gX3_isSpelled_X3_byteAt : GoodIn wsX3_isSpelled (wsV RX3 108 RX3 yX3_byteAt wsX3_byteAt) := goodIn_app (goodIn_of _ (by decide +kernel)) ggX3_isSpelled_X3_byteAt
theorem dX3_isSpelled_0 : decode cX3_isSpelled 0 = .ok (.aload_n 1, 1) := by decide +kernel
theorem dX3_isSpelled_1 : decode cX3_isSpelled 1 = .ok (.invokevirtual 132, 3) := by decide +kernel
theorem dX3_isSpelled_4 : decode cX3_isSpelled 4 = .ok (.aload_n 0, 1) := by decide +kernel
theorem dX3_isSpelled_5 : decode cX3_isSpelled 5 = .ok (.getfield 31, 3) := by decide +kernel
theorem dX3_isSpelled_8 : decode cX3_isSpelled 8 = .ok (.aload_n 0, 1) := by decide +kernel
theorem dX3_isSpelled_9 : decode cX3_isSpelled 9 = .ok (.getfield 44, 3) := by decide +kernel
theorem dX3_isSpelled_12 : decode cX3_isSpelled 12 = .ok (.isub, 1) := by decide +kernel
theorem dX3_isSpelled_13 : decode cX3_isSpelled 13 = .ok (.if_icmp .eq 5, 3) := by decide +kernel
theorem dX3_isSpelled_16 : decode cX3_isSpelled 16 = .ok (.iconst 0, 1) := by decide +kernel
theorem dX3_isSpelled_17 : decode cX3_isSpelled 17 = .ok (.ireturn, 1) := by decide +kernel
theorem dX3_isSpelled_18 : decode cX3_isSpelled 18 = .ok (.iconst 0, 1) := by decide +kernel
theorem dX3_isSpelled_19 : decode cX3_isSpelled 19 = .ok (.istore_n 2, 1) := by decide +kernel
theorem dX3_isSpelled_20 : decode cX3_isSpelled 20 = .ok (.iload_n 2, 1) := by decide +kernel
theorem dX3_isSpelled_21 : decode cX3_isSpelled 21 = .ok (.aload_n 1, 1) := by decide +kernel
theorem dX3_isSpelled_22 : decode cX3_isSpelled 22 = .ok (.invokevirtual 132, 3) := by decide +kernel
theorem dX3_isSpelled_25 : decode cX3_isSpelled 25 = .ok (.if_icmp .ge 29, 3) := by decide +kernel
theorem dX3_isSpelled_28 : decode cX3_isSpelled 28 = .ok (.aload_n 1, 1) := by decide +kernel
theorem dX3_isSpelled_29 : decode cX3_isSpelled 29 = .ok (.iload_n 2, 1) := by decide +kernel
theorem dX3_isSpelled_30 : decode cX3_isSpelled 30 = .ok (.invokevirtual 137, 3) := by decide +kernel
theorem dX3_isSpelled_33 : decode cX3_isSpelled 33 = .ok (.aload_n 0, 1) := by decide +kernel
theorem dX3_isSpelled_34 : decode cX3_isSpelled 34 = .ok (.aload_n 0, 1) := by decide +kernel
theorem dX3_isSpelled_35 : decode cX3_isSpelled 35 = .ok (.getfield 44, 3) := by decide +kernel
theorem dX3_isSpelled_38 : decode cX3_isSpelled 38 = .ok (.iload_n 2, 1) := by decide +kernel
theorem dX3_isSpelled_39 : decode cX3_isSpelled 39 = .ok (.iadd, 1) := by decide +kernel
theorem dX3_isSpelled_40 : decode cX3_isSpelled 40 = .ok (.invokevirtual 108, 3) := by decide +kernel
theorem dX3_isSpelled_43 : decode cX3_isSpelled 43 = .ok (.if_icmp .eq 5, 3) := by decide +kernel
theorem dX3_isSpelled_46 : decode cX3_isSpelled 46 = .ok (.iconst 0, 1) := by decide +kernel
theorem dX3_isSpelled_47 : decode cX3_isSpelled 47 = .ok (.ireturn, 1) := by decide +kernel
theorem dX3_isSpelled_48 : decode cX3_isSpelled 48 = .ok (.iinc 2 1, 3) := by decide +kernel
theorem dX3_isSpelled_51 : decode cX3_isSpelled 51 = .ok (.goto (-31), 3) := by decide +kernel
theorem dX3_isSpelled_54 : decode cX3_isSpelled 54 = .ok (.iconst 1, 1) := by decide +kernel
theorem dX3_isSpelled_55 : decode cX3_isSpelled 55 = .ok (.ireturn, 1) := by decide +kernel
set_option maxRecDepth 20000 in
theorem ggX3_readNumber_X3_byteAt : GoodIn wsX3_readNumber wsX3_byteAt := goodIn_r _ [14, 3, 15, 19, 20, 21, 22, 23, 24, 25, 26] (by decide +kernel) (by decide +kernel)
set_option maxRecDepth 20000 in
theorem gX3_readNumber_X3_byteAt : GoodIn wsX3_readNumber (wsV RX3 108 RX3 yX3_byteAt wsX3_byteAt) := goodIn_app (goodIn_of _ (by decide +kernel)) ggX3_readNumber_X3_byteAt
set_option maxRecDepth 20000 in
theorem ggX3_readNumber_X3_isDigit : GoodIn wsX3_readNumber wsX3_isDigit := goodIn_r _ [18] (by decide +kernel) (by decide +kernel)
set_option maxRecDepth 20000 in
theorem gX3_readNumber_X3_isDigit : GoodIn wsX3_readNumber (va_wsS RX3 118 yX3_isDigit wsX3_isDigit) := goodIn_app (goodIn_of _ (by decide +kernel)) ggX3_readNumber_X3_isDigit
theorem dX3_readNumber_0 : decode cX3_readNumber 0 = .ok (.aload_n 0, 1) := by decide +kernel
theorem dX3_readNumber_1 : decode cX3_readNumber 1 = .ok (.iconst 0, 1) := by decide +kernel
theorem dX3_readNumber_2 : decode cX3_readNumber 2 = .ok (.putfield 47, 3) := by decide +kernel
theorem dX3_readNumber_5 : decode cX3_readNumber 5 = .ok (.aload_n 0, 1) := by decide +kernel
theorem dX3_readNumber_6 : decode cX3_readNumber 6 = .ok (.getfield 31, 3) := by decide +kernel
theorem dX3_readNumber_9 : decode cX3_readNumber 9 = .ok (.aload_n 0, 1) := by decide +kernel
theorem dX3_readNumber_10 : decode cX3_readNumber 10 = .ok (.getfield 15, 3) := by decide +kernel
theorem dX3_readNumber_13 : decode cX3_readNumber 13 = .ok (.if_icmp .ge 58, 3) := by decide +kernel
theorem dX3_readNumber_16 : decode cX3_readNumber 16 = .ok (.aload_n 0, 1) := by decide +kernel
theorem dX3_readNumber_17 : decode cX3_readNumber 17 = .ok (.aload_n 0, 1) := by decide +kernel
theorem dX3_readNumber_18 : decode cX3_readNumber 18 = .ok (.getfield 31, 3) := by decide +kernel
theorem dX3_readNumber_21 : decode cX3_readNumber 21 = .ok (.invokevirtual 108, 3) := by decide +kernel
theorem dX3_readNumber_24 : decode cX3_readNumber 24 = .ok (.invokestatic 118, 3) := by decide +kernel
theorem dX3_readNumber_27 : decode cX3_readNumber 27 = .ok (.ifCond .eq 44, 3) := by decide +kernel
theorem dX3_readNumber_30 : decode cX3_readNumber 30 = .ok (.aload_n 0, 1) := by decide +kernel
theorem dX3_readNumber_31 : decode cX3_readNumber 31 = .ok (.bipush 100, 2) := by decide +kernel
theorem dX3_readNumber_33 : decode cX3_readNumber 33 = .ok (.aload_n 0, 1) := by decide +kernel
theorem dX3_readNumber_34 : decode cX3_readNumber 34 = .ok (.getfield 47, 3) := by decide +kernel
theorem dX3_readNumber_37 : decode cX3_readNumber 37 = .ok (.bipush 10, 2) := by decide +kernel
theorem dX3_readNumber_39 : decode cX3_readNumber 39 = .ok (.imul, 1) := by decide +kernel
theorem dX3_readNumber_40 : decode cX3_readNumber 40 = .ok (.aload_n 0, 1) := by decide +kernel
theorem dX3_readNumber_41 : decode cX3_readNumber 41 = .ok (.aload_n 0, 1) := by decide +kernel
theorem dX3_readNumber_42 : decode cX3_readNumber 42 = .ok (.getfield 31, 3) := by decide +kernel
theorem dX3_readNumber_45 : decode cX3_readNumber 45 = .ok (.invokevirtual 108, 3) := by decide +kernel
theorem dX3_readNumber_48 : decode cX3_readNumber 48 = .ok (.iadd, 1) := by decide +kernel
theorem dX3_readNumber_49 : decode cX3_readNumber 49 = .ok (.bipush 48, 2) := by decide +kernel
theorem dX3_readNumber_51 : decode cX3_readNumber 51 = .ok (.isub, 1) := by decide +kernel
theorem dX3_readNumber_52 : decode cX3_readNumber 52 = .ok (.invokestatic 141, 3) := by decide +kernel
theorem dX3_readNumber_55 : decode cX3_readNumber 55 = .ok (.putfield 47, 3) := by decide +kernel
theorem dX3_readNumber_58 : decode cX3_readNumber 58 = .ok (.aload_n 0, 1) := by decide +kernel
theorem dX3_readNumber_59 : decode cX3_readNumber 59 = .ok (.dup, 1) := by decide +kernel
theorem dX3_readNumber_60 : decode cX3_readNumber 60 = .ok (.getfield 31, 3) := by decide +kernel
theorem dX3_readNumber_63 : decode cX3_readNumber 63 = .ok (.iconst 1, 1) := by decide +kernel
theorem dX3_readNumber_64 : decode cX3_readNumber 64 = .ok (.iadd, 1) := by decide +kernel
theorem dX3_readNumber_65 : decode cX3_readNumber 65 = .ok (.putfield 31, 3) := by decide +kernel
theorem dX3_readNumber_68 : decode cX3_readNumber 68 = .ok (.goto (-63), 3) := by decide +kernel
theorem dX3_readNumber_71 : decode cX3_readNumber 71 = .ok (.aload_n 0, 1) := by decide +kernel
theorem dX3_readNumber_72 : decode cX3_readNumber 72 = .ok (.aload_n 0, 1) := by decide +kernel
theorem dX3_readNumber_73 : decode cX3_readNumber 73 = .ok (.getfield 44, 3) := by decide +kernel
theorem dX3_readNumber_76 : decode cX3_readNumber 76 = .ok (.invokevirtual 108, 3) := by decide +kernel
theorem dX3_readNumber_79 : decode cX3_readNumber 79 = .ok (.bipush 48, 2) := by decide +kernel
theorem dX3_readNumber_81 : decode cX3_readNumber 81 = .ok (.if_icmp .ne 20, 3) := by decide +kernel
theorem dX3_readNumber_84 : decode cX3_readNumber 84 = .ok (.aload_n 0, 1) := by decide +kernel
theorem dX3_readNumber_85 : decode cX3_readNumber 85 = .ok (.getfield 31, 3) := by decide +kernel
theorem dX3_readNumber_88 : decode cX3_readNumber 88 = .ok (.aload_n 0, 1) := by decide +kernel
theorem dX3_readNumber_89 : decode cX3_readNumber 89 = .ok (.getfield 44, 3) := by decide +kernel
theorem dX3_readNumber_92 : decode cX3_readNumber 92 = .ok (.isub, 1) := by decide +kernel
theorem dX3_readNumber_93 : decode cX3_readNumber 93 = .ok (.iconst 1, 1) := by decide +kernel
theorem dX3_readNumber_94 : decode cX3_readNumber 94 = .ok (.if_icmp .le 7, 3) := by decide +kernel
theorem dX3_readNumber_97 : decode cX3_readNumber 97 = .ok (.iconst 1, 1) := by decide +kernel
theorem dX3_readNumber_98 : decode cX3_readNumber 98 = .ok (.goto 4, 3) := by decide +kernel
theorem dX3_readNumber_101 : decode cX3_readNumber 101 = .ok (.iconst 0, 1) := by decide +kernel
theorem dX3_readNumber_102 : decode cX3_readNumber 102 = .ok (.istore_n 1, 1) := by decide +kernel
theorem dX3_readNumber_103 : decode cX3_readNumber 103 = .ok (.aload_n 0, 1) := by decide +kernel
theorem dX3_readNumber_104 : decode cX3_readNumber 104 = .ok (.iload_n 1, 1) := by decide +kernel
theorem dX3_readNumber_105 : decode cX3_readNumber 105 = .ok (.ifCond .ne 12, 3) := by decide +kernel
theorem dX3_readNumber_108 : decode cX3_readNumber 108 = .ok (.aload_n 0, 1) := by decide +kernel
theorem dX3_readNumber_109 : decode cX3_readNumber 109 = .ok (.getfield 47, 3) := by decide +kernel
theorem dX3_readNumber_112 : decode cX3_readNumber 112 = .ok (.bipush 99, 2) := by decide +kernel
theorem dX3_readNumber_114 : decode cX3_readNumber 114 = .ok (.if_icmp .le 7, 3) := by decide +kernel
theorem dX3_readNumber_117 : decode cX3_readNumber 117 = .ok (.iconst 4, 1) := by decide +kernel
theorem dX3_readNumber_118 : decode cX3_readNumber 118 = .ok (.goto 4, 3) := by decide +kernel
theorem dX3_readNumber_121 : decode cX3_readNumber 121 = .ok (.iconst 2, 1) := by decide +kernel
theorem dX3_readNumber_122 : decode cX3_readNumber 122 = .ok (.putfield 37, 3) := by decide +kernel
theorem dX3_readNumber_125 : decode cX3_readNumber 125 = .ok (.return_, 1) := by decide +kernel
theorem dX3_isLetter_0 : decode cX3_isLetter 0 = .ok (.iload_n 0, 1) := by decide +kernel
theorem dX3_isLetter_1 : decode cX3_isLetter 1 = .ok (.bipush 97, 2) := by decide +kernel
theorem dX3_isLetter_3 : decode cX3_isLetter 3 = .ok (.if_icmp .lt 13, 3) := by decide +kernel
theorem dX3_isLetter_6 : decode cX3_isLetter 6 = .ok (.iload_n 0, 1) := by decide +kernel
theorem dX3_isLetter_7 : decode cX3_isLetter 7 = .ok (.bipush 122, 2) := by decide +kernel
theorem dX3_isLetter_9 : decode cX3_isLetter 9 = .ok (.if_icmp .gt 7, 3) := by decide +kernel
theorem dX3_isLetter_12 : decode cX3_isLetter 12 = .ok (.iconst 1, 1) := by decide +kernel
theorem dX3_isLetter_13 : decode cX3_isLetter 13 = .ok (.goto 4, 3) := by decide +kernel
theorem dX3_isLetter_16 : decode cX3_isLetter 16 = .ok (.iconst 0, 1) := by decide +kernel
theorem dX3_isLetter_17 : decode cX3_isLetter 17 = .ok (.ireturn, 1) := by decide +kernel
theorem dX3_isDigit_0 : decode cX3_isDigit 0 = .ok (.iload_n 0, 1) := by decide +kernel
theorem dX3_isDigit_1 : decode cX3_isDigit 1 = .ok (.bipush 48, 2) := by decide +kernel
theorem dX3_isDigit_3 : decode cX3_isDigit 3 = .ok (.if_icmp .lt 13, 3) := by decide +kernel
theorem dX3_isDigit_6 : decode cX3_isDigit 6 = .ok (.iload_n 0, 1) := by decide +kernel
theorem dX3_isDigit_7 : decode cX3_isDigit 7 = .ok (.bipush 57, 2) := by decide +kernel
theorem dX3_isDigit_9 : decode cX3_isDigit 9 = .ok (.if_icmp .gt 7, 3) := by decide +kernel
theorem dX3_isDigit_12 : decode cX3_isDigit 12 = .ok (.iconst 1, 1) := by decide +kernel
theorem dX3_isDigit_13 : decode cX3_isDigit 13 = .ok (.goto 4, 3) := by decide +kernel
theorem dX3_isDigit_16 : decode cX3_isDigit 16 = .ok (.iconst 0, 1) := by decide +kernel
theorem dX3_isDigit_17 : decode cX3_isDigit 17 = .ok (.ireturn, 1) := by decide +kernel
theorem dX3_spelling_0 : decode cX3_spelling 0 = .ok (.iload_n 0, 1) := by decide +kernel
theorem dX3_spelling_1 : decode cX3_spelling 1 = .ok (.tableswitch 85 0 9 #[55, 58, 61, 64, 67, 70, 73, 76, 79, 82], 55) := by decide +kernel
theorem dX3_spelling_56 : decode cX3_spelling 56 = .ok (.ldc 146, 2) := by decide +kernel
theorem dX3_spelling_58 : decode cX3_spelling 58 = .ok (.areturn, 1) := by decide +kernel
theorem dX3_spelling_59 : decode cX3_spelling 59 = .ok (.ldc 148, 2) := by decide +kernel
theorem dX3_spelling_61 : decode cX3_spelling 61 = .ok (.areturn, 1) := by decide +kernel
theorem dX3_spelling_62 : decode cX3_spelling 62 = .ok (.ldc 150, 2) := by decide +kernel
theorem dX3_spelling_64 : decode cX3_spelling 64 = .ok (.areturn, 1) := by decide +kernel
theorem dX3_spelling_65 : decode cX3_spelling 65 = .ok (.ldc 152, 2) := by decide +kernel
theorem dX3_spelling_67 : decode cX3_spelling 67 = .ok (.areturn, 1) := by decide +kernel
theorem dX3_spelling_68 : decode cX3_spelling 68 = .ok (.ldc 154, 2) := by decide +kernel
theorem dX3_spelling_70 : decode cX3_spelling 70 = .ok (.areturn, 1) := by decide +kernel
theorem dX3_spelling_71 : decode cX3_spelling 71 = .ok (.ldc 156, 2) := by decide +kernel
theorem dX3_spelling_73 : decode cX3_spelling 73 = .ok (.areturn, 1) := by decide +kernel
theorem dX3_spelling_74 : decode cX3_spelling 74 = .ok (.ldc 157, 2) := by decide +kernel
theorem dX3_spelling_76 : decode cX3_spelling 76 = .ok (.areturn, 1) := by decide +kernel
theorem dX3_spelling_77 : decode cX3_spelling 77 = .ok (.ldc 158, 2) := by decide +kernel
theorem dX3_spelling_79 : decode cX3_spelling 79 = .ok (.areturn, 1) := by decide +kernel
theorem dX3_spelling_80 : decode cX3_spelling 80 = .ok (.ldc 159, 2) := by decide +kernel
theorem dX3_spelling_82 : decode cX3_spelling 82 = .ok (.areturn, 1) := by decide +kernel
theorem dX3_spelling_83 : decode cX3_spelling 83 = .ok (.ldc 160, 2) := by decide +kernel
theorem dX3_spelling_85 : decode cX3_spelling 85 = .ok (.areturn, 1) := by decide +kernel
theorem dX3_spelling_86 : decode cX3_spelling 86 = .ok (.ldc 162, 2) := by decide +kernel
theorem dX3_spelling_88 : decode cX3_spelling 88 = .ok (.areturn, 1) := by decide +kernel
set_option maxRecDepth 20000 in
theorem ggX4_init_X3_init : GoodIn wsX4_init wsX3_init := goodIn_r _ [23, 24, 2, 3, 25, 26, 55, 56, 57, 58, 59, 60, 61, 62] (by decide +kernel) (by decide +kernel)
set_option maxRecDepth 20000 in
theorem gX4_init_X3_init_n11 : GoodIn wsX4_init (wsX3_init) := ggX4_init_X3_init
set_option maxRecDepth 20000 in
theorem ggX4_init_X2_init : GoodIn wsX4_init wsX2_init := goodIn_r _ [28, 29, 2, 3, 30, 31, 25, 32, 33, 70, 71, 72, 73, 74] (by decide +kernel) (by decide +kernel)
set_option maxRecDepth 20000 in
theorem gX4_init_X2_init_n18 : GoodIn wsX4_init (wsX2_init) := ggX4_init_X2_init
set_option maxRecDepth 20000 in
theorem ggX4_init_X0_init : GoodIn wsX4_init wsX0_init := goodIn_r _ [35, 36, 2, 3] (by decide +kernel) (by decide +kernel)
set_option maxRecDepth 20000 in
theorem gX4_init_X0_init_n25 : GoodIn wsX4_init (wsX0_init) := ggX4_init_X0_init
set_option maxRecDepth 20000 in
theorem ggX4_init_X1_init : GoodIn wsX4_init wsX1_init := goodIn_r _ [38, 39, 2, 3, 25, 40, 41, 42, 43, 44, 19, 45, 46, 47, 48, 49, 50, 51, 52, 53, 54, 83, 84, 85, 86, 87, 88, 89, 90, 91, 92, 93] (by decide +kernel) (by decide +kernel)
set_option maxRecDepth 20000 in
theorem gX4_init_X1_init_n36 : GoodIn wsX4_init (wsX1_init) := ggX4_init_X1_init
theorem dX4_init_0 : decode cX4_init 0 = .ok (.aload_n 0, 1) := by decide +kernel
theorem dX4_init_1 : decode cX4_init 1 = .ok (.invokespecial 3, 3) := by decide +kernel
theorem dX4_init_4 : decode cX4_init 4 = .ok (.aload_n 0, 1) := by decide +kernel
theorem dX4_init_5 : decode cX4_init 5 = .ok (.new 9, 3) := by decide +kernel
theorem dX4_init_8 : decode cX4_init 8 = .ok (.dup, 1) := by decide +kernel
theorem dX4_init_9 : decode cX4_init 9 = .ok (.invokespecial 11, 3) := by decide +kernel
theorem dX4_init_12 : decode cX4_init 12 = .ok (.putfield 12, 3) := by decide +kernel
theorem dX4_init_15 : decode cX4_init 15 = .ok (.aload_n 0, 1) := by decide +kernel
theorem dX4_init_16 : decode cX4_init 16 = .ok (.new 16, 3) := by decide +kernel
theorem dX4_init_19 : decode cX4_init 19 = .ok (.dup, 1) := by decide +kernel
theorem dX4_init_20 : decode cX4_init 20 = .ok (.invokespecial 18, 3) := by decide +kernel
theorem dX4_init_23 : decode cX4_init 23 = .ok (.putfield 19, 3) := by decide +kernel
theorem dX4_init_26 : decode cX4_init 26 = .ok (.aload_n 0, 1) := by decide +kernel
theorem dX4_init_27 : decode cX4_init 27 = .ok (.new 23, 3) := by decide +kernel
theorem dX4_init_30 : decode cX4_init 30 = .ok (.dup, 1) := by decide +kernel
theorem dX4_init_31 : decode cX4_init 31 = .ok (.invokespecial 25, 3) := by decide +kernel
theorem dX4_init_34 : decode cX4_init 34 = .ok (.putfield 26, 3) := by decide +kernel
theorem dX4_init_37 : decode cX4_init 37 = .ok (.aload_n 0, 1) := by decide +kernel
theorem dX4_init_38 : decode cX4_init 38 = .ok (.iconst 2, 1) := by decide +kernel
theorem dX4_init_39 : decode cX4_init 39 = .ok (.anewarray 23, 3) := by decide +kernel
theorem dX4_init_42 : decode cX4_init 42 = .ok (.dup, 1) := by decide +kernel
theorem dX4_init_43 : decode cX4_init 43 = .ok (.iconst 0, 1) := by decide +kernel
theorem dX4_init_44 : decode cX4_init 44 = .ok (.new 23, 3) := by decide +kernel
theorem dX4_init_47 : decode cX4_init 47 = .ok (.dup, 1) := by decide +kernel
theorem dX4_init_48 : decode cX4_init 48 = .ok (.invokespecial 25, 3) := by decide +kernel
theorem dX4_init_51 : decode cX4_init 51 = .ok (.aastore, 1) := by decide +kernel
theorem dX4_init_52 : decode cX4_init 52 = .ok (.dup, 1) := by decide +kernel
theorem dX4_init_53 : decode cX4_init 53 = .ok (.iconst 1, 1) := by decide +kernel
theorem dX4_init_54 : decode cX4_init 54 = .ok (.new 23, 3) := by decide +kernel
theorem dX4_init_57 : decode cX4_init 57 = .ok (.dup, 1) := by decide +kernel
theorem dX4_init_58 : decode cX4_init 58 = .ok (.invokespecial 25, 3) := by decide +kernel
theorem dX4_init_61 : decode cX4_init 61 = .ok (.aastore, 1) := by decide +kernel
theorem dX4_init_62 : decode cX4_init 62 = .ok (.putfield 30, 3) := by decide +kernel
theorem dX4_init_65 : decode cX4_init 65 = .ok (.aload_n 0, 1) := by decide +kernel
theorem dX4_init_66 : decode cX4_init 66 = .ok (.new 34, 3) := by decide +kernel
theorem dX4_init_69 : decode cX4_init 69 = .ok (.dup, 1) := by decide +kernel
theorem dX4_init_70 : decode cX4_init 70 = .ok (.invokespecial 36, 3) := by decide +kernel
theorem dX4_init_73 : decode cX4_init 73 = .ok (.putfield 37, 3) := by decide +kernel
theorem dX4_init_76 : decode cX4_init 76 = .ok (.aload_n 0, 1) := by decide +kernel
theorem dX4_init_77 : decode cX4_init 77 = .ok (.new 34, 3) := by decide +kernel
theorem dX4_init_80 : decode cX4_init 80 = .ok (.dup, 1) := by decide +kernel
theorem dX4_init_81 : decode cX4_init 81 = .ok (.invokespecial 36, 3) := by decide +kernel
theorem dX4_init_84 : decode cX4_init 84 = .ok (.putfield 41, 3) := by decide +kernel
theorem dX4_init_87 : decode cX4_init 87 = .ok (.return_, 1) := by decide +kernel
set_option maxRecDepth 20000 in
theorem ggX4_type_X3_append : GoodIn wsX4_type wsX3_append := goodIn_r _ [5, 6, 7, 15, 16, 17, 18, 19, 20, 21, 22] (by decide +kernel) (by decide +kernel)
set_option maxRecDepth 20000 in
theorem gX4_type_X3_append_n48 : GoodIn wsX4_type (wsX3_append) := ggX4_type_X3_append
theorem dX4_type_0 : decode cX4_type 0 = .ok (.iload_n 3, 1) := by decide +kernel
theorem dX4_type_1 : decode cX4_type 1 = .ok (.iconst 1, 1) := by decide +kernel
theorem dX4_type_2 : decode cX4_type 2 = .ok (.if_icmp .lt 9, 3) := by decide +kernel
theorem dX4_type_5 : decode cX4_type 5 = .ok (.iload_n 3, 1) := by decide +kernel
theorem dX4_type_6 : decode cX4_type 6 = .ok (.bipush 8, 2) := by decide +kernel
theorem dX4_type_8 : decode cX4_type 8 = .ok (.if_icmp .le 5, 3) := by decide +kernel
theorem dX4_type_11 : decode cX4_type 11 = .ok (.iconst (-1), 1) := by decide +kernel
theorem dX4_type_12 : decode cX4_type 12 = .ok (.ireturn, 1) := by decide +kernel
theorem dX4_type_13 : decode cX4_type 13 = .ok (.iload_n 3, 1) := by decide +kernel
theorem dX4_type_14 : decode cX4_type 14 = .ok (.sipush 200, 3) := by decide +kernel
theorem dX4_type_17 : decode cX4_type 17 = .ok (.aload_n 0, 1) := by decide +kernel
theorem dX4_type_18 : decode cX4_type 18 = .ok (.getfield 12, 3) := by decide +kernel
theorem dX4_type_21 : decode cX4_type 21 = .ok (.getfield 44, 3) := by decide +kernel
theorem dX4_type_24 : decode cX4_type 24 = .ok (.isub, 1) := by decide +kernel
theorem dX4_type_25 : decode cX4_type 25 = .ok (.if_icmp .le 6, 3) := by decide +kernel
theorem dX4_type_28 : decode cX4_type 28 = .ok (.bipush (-3), 2) := by decide +kernel
theorem dX4_type_30 : decode cX4_type 30 = .ok (.ireturn, 1) := by decide +kernel
theorem dX4_type_31 : decode cX4_type 31 = .ok (.iload_n 3, 1) := by decide +kernel
theorem dX4_type_32 : decode cX4_type 32 = .ok (.iconst 1, 1) := by decide +kernel
theorem dX4_type_33 : decode cX4_type 33 = .ok (.isub, 1) := by decide +kernel
theorem dX4_type_34 : decode cX4_type 34 = .ok (.istore 4, 2) := by decide +kernel
theorem dX4_type_36 : decode cX4_type 36 = .ok (.iload 4, 2) := by decide +kernel
theorem dX4_type_38 : decode cX4_type 38 = .ok (.ifCond .lt 28, 3) := by decide +kernel
theorem dX4_type_41 : decode cX4_type 41 = .ok (.aload_n 0, 1) := by decide +kernel
theorem dX4_type_42 : decode cX4_type 42 = .ok (.getfield 12, 3) := by decide +kernel
theorem dX4_type_45 : decode cX4_type 45 = .ok (.lload_n 1, 1) := by decide +kernel
theorem dX4_type_46 : decode cX4_type 46 = .ok (.bipush 8, 2) := by decide +kernel
theorem dX4_type_48 : decode cX4_type 48 = .ok (.iload 4, 2) := by decide +kernel
theorem dX4_type_50 : decode cX4_type 50 = .ok (.imul, 1) := by decide +kernel
theorem dX4_type_51 : decode cX4_type 51 = .ok (.lushr, 1) := by decide +kernel
theorem dX4_type_52 : decode cX4_type 52 = .ok (.l2i, 1) := by decide +kernel
theorem dX4_type_53 : decode cX4_type 53 = .ok (.sipush 255, 3) := by decide +kernel
theorem dX4_type_56 : decode cX4_type 56 = .ok (.iand, 1) := by decide +kernel
theorem dX4_type_57 : decode cX4_type 57 = .ok (.invokevirtual 48, 3) := by decide +kernel
theorem dX4_type_60 : decode cX4_type 60 = .ok (.iinc 4 (-1), 3) := by decide +kernel
theorem dX4_type_63 : decode cX4_type 63 = .ok (.goto (-27), 3) := by decide +kernel
theorem dX4_type_66 : decode cX4_type 66 = .ok (.aload_n 0, 1) := by decide +kernel
theorem dX4_type_67 : decode cX4_type 67 = .ok (.getfield 12, 3) := by decide +kernel
theorem dX4_type_70 : decode cX4_type 70 = .ok (.getfield 44, 3) := by decide +kernel
theorem dX4_type_73 : decode cX4_type 73 = .ok (.ireturn, 1) := by decide +kernel
theorem dX4_clear_0 : decode cX4_clear 0 = .ok (.aload_n 0, 1) := by decide +kernel
theorem dX4_clear_1 : decode cX4_clear 1 = .ok (.getfield 12, 3) := by decide +kernel
theorem dX4_clear_4 : decode cX4_clear 4 = .ok (.getfield 44, 3) := by decide +kernel
theorem dX4_clear_7 : decode cX4_clear 7 = .ok (.istore_n 1, 1) := by decide +kernel
theorem dX4_clear_8 : decode cX4_clear 8 = .ok (.aload_n 0, 1) := by decide +kernel
theorem dX4_clear_9 : decode cX4_clear 9 = .ok (.getfield 12, 3) := by decide +kernel
theorem dX4_clear_12 : decode cX4_clear 12 = .ok (.iconst 0, 1) := by decide +kernel
theorem dX4_clear_13 : decode cX4_clear 13 = .ok (.putfield 44, 3) := by decide +kernel
theorem dX4_clear_16 : decode cX4_clear 16 = .ok (.iload_n 1, 1) := by decide +kernel
theorem dX4_clear_17 : decode cX4_clear 17 = .ok (.ireturn, 1) := by decide +kernel
set_option maxRecDepth 20000 in
theorem ggX4_house_X3_tell : GoodIn wsX4_house wsX3_tell := goodIn_r _ [10, 11, 12, 13, 14, 15, 16, 17, 18, 19, 20, 21, 22, 23, 24, 25, 26, 27, 28, 29, 30, 31, 8, 32, 33, 34, 35, 36, 37, 38, 39, 40, 41, 42, 43, 44, 45, 46, 47, 48, 49, 50, 51, 52, 53, 54, 55, 56, 57, 58, 59, 60, 61, 62, 63, 64, 65, 66, 67, 68, 69, 70, 71, 72, 73, 74, 75, 76, 77, 78, 79, 80, 81, 82, 83, 84, 85, 86, 87, 88, 89, 90, 91, 92, 93, 94, 95, 96, 97, 98, 99, 100, 101, 102, 103, 104, 105, 106, 107, 108, 109, 110, 111, 112, 113, 114, 115, 116, 117, 118, 119, 120, 121, 122, 123, 124, 125, 126, 127, 128, 129, 130, 131, 132, 133, 134, 135, 136, 137, 138, 139, 140, 141, 142, 143, 144, 145, 146, 147, 148, 149, 168, 169, 170, 171, 172, 173, 174, 175, 181, 182, 183, 184, 185, 186, 187, 188, 189, 190, 191] (by decide +kernel) (by decide +kernel)
set_option maxRecDepth 20000 in
theorem gX4_house_X3_tell_n52 : GoodIn wsX4_house (wsX3_tell) := ggX4_house_X3_tell
set_option maxRecDepth 20000 in
theorem ggX4_house_X0_begin : GoodIn wsX4_house wsX0_begin := goodIn_r _ [153, 154, 155, 156, 157, 158, 159, 160, 192, 193, 194, 195, 196, 197, 198, 199] (by decide +kernel) (by decide +kernel)
set_option maxRecDepth 20000 in
theorem gX4_house_X0_begin_n63 : GoodIn wsX4_house (wsX0_begin) := ggX4_house_X0_begin
theorem dX4_house_0 : decode cX4_house 0 = .ok (.aload_n 0, 1) := by decide +kernel
theorem dX4_house_1 : decode cX4_house 1 = .ok (.getfield 12, 3) := by decide +kernel
theorem dX4_house_4 : decode cX4_house 4 = .ok (.aload_n 0, 1) := by decide +kernel
theorem dX4_house_5 : decode cX4_house 5 = .ok (.getfield 41, 3) := by decide +kernel
theorem dX4_house_8 : decode cX4_house 8 = .ok (.invokevirtual 52, 3) := by decide +kernel
theorem dX4_house_11 : decode cX4_house 11 = .ok (.istore_n 1, 1) := by decide +kernel
theorem dX4_house_12 : decode cX4_house 12 = .ok (.iload_n 1, 1) := by decide +kernel
theorem dX4_house_13 : decode cX4_house 13 = .ok (.ifCond .ge 5, 3) := by decide +kernel
theorem dX4_house_16 : decode cX4_house 16 = .ok (.iload_n 1, 1) := by decide +kernel
theorem dX4_house_17 : decode cX4_house 17 = .ok (.ireturn, 1) := by decide +kernel
theorem dX4_house_18 : decode cX4_house 18 = .ok (.aload_n 0, 1) := by decide +kernel
theorem dX4_house_19 : decode cX4_house 19 = .ok (.getfield 37, 3) := by decide +kernel
theorem dX4_house_22 : decode cX4_house 22 = .ok (.astore_n 2, 1) := by decide +kernel
theorem dX4_house_23 : decode cX4_house 23 = .ok (.aload_n 0, 1) := by decide +kernel
theorem dX4_house_24 : decode cX4_house 24 = .ok (.aload_n 0, 1) := by decide +kernel
theorem dX4_house_25 : decode cX4_house 25 = .ok (.getfield 41, 3) := by decide +kernel
theorem dX4_house_28 : decode cX4_house 28 = .ok (.putfield 37, 3) := by decide +kernel
theorem dX4_house_31 : decode cX4_house 31 = .ok (.aload_n 0, 1) := by decide +kernel
theorem dX4_house_32 : decode cX4_house 32 = .ok (.aload_n 2, 1) := by decide +kernel
theorem dX4_house_33 : decode cX4_house 33 = .ok (.putfield 41, 3) := by decide +kernel
theorem dX4_house_36 : decode cX4_house 36 = .ok (.aload_n 0, 1) := by decide +kernel
theorem dX4_house_37 : decode cX4_house 37 = .ok (.getfield 12, 3) := by decide +kernel
theorem dX4_house_40 : decode cX4_house 40 = .ok (.iconst 0, 1) := by decide +kernel
theorem dX4_house_41 : decode cX4_house 41 = .ok (.putfield 44, 3) := by decide +kernel
theorem dX4_house_44 : decode cX4_house 44 = .ok (.aload_n 0, 1) := by decide +kernel
theorem dX4_house_45 : decode cX4_house 45 = .ok (.getfield 19, 3) := by decide +kernel
theorem dX4_house_48 : decode cX4_house 48 = .ok (.iconst 0, 1) := by decide +kernel
theorem dX4_house_49 : decode cX4_house 49 = .ok (.putfield 56, 3) := by decide +kernel
theorem dX4_house_52 : decode cX4_house 52 = .ok (.aload_n 0, 1) := by decide +kernel
theorem dX4_house_53 : decode cX4_house 53 = .ok (.getfield 26, 3) := by decide +kernel
theorem dX4_house_56 : decode cX4_house 56 = .ok (.aload_n 0, 1) := by decide +kernel
theorem dX4_house_57 : decode cX4_house 57 = .ok (.getfield 37, 3) := by decide +kernel
theorem dX4_house_60 : decode cX4_house 60 = .ok (.getfield 60, 3) := by decide +kernel
theorem dX4_house_63 : decode cX4_house 63 = .ok (.invokevirtual 63, 3) := by decide +kernel
theorem dX4_house_66 : decode cX4_house 66 = .ok (.iconst 0, 1) := by decide +kernel
theorem dX4_house_67 : decode cX4_house 67 = .ok (.istore_n 3, 1) := by decide +kernel
theorem dX4_house_68 : decode cX4_house 68 = .ok (.iload_n 3, 1) := by decide +kernel
theorem dX4_house_69 : decode cX4_house 69 = .ok (.aload_n 0, 1) := by decide +kernel
theorem dX4_house_70 : decode cX4_house 70 = .ok (.getfield 30, 3) := by decide +kernel
theorem dX4_house_73 : decode cX4_house 73 = .ok (.arraylength, 1) := by decide +kernel
theorem dX4_house_74 : decode cX4_house 74 = .ok (.if_icmp .ge 19, 3) := by decide +kernel
theorem dX4_house_77 : decode cX4_house 77 = .ok (.aload_n 0, 1) := by decide +kernel
theorem dX4_house_78 : decode cX4_house 78 = .ok (.getfield 30, 3) := by decide +kernel
theorem dX4_house_81 : decode cX4_house 81 = .ok (.iload_n 3, 1) := by decide +kernel
theorem dX4_house_82 : decode cX4_house 82 = .ok (.aaload, 1) := by decide +kernel
theorem dX4_house_83 : decode cX4_house 83 = .ok (.iconst 0, 1) := by decide +kernel
theorem dX4_house_84 : decode cX4_house 84 = .ok (.putfield 66, 3) := by decide +kernel
theorem dX4_house_87 : decode cX4_house 87 = .ok (.iinc 3 1, 3) := by decide +kernel
theorem dX4_house_90 : decode cX4_house 90 = .ok (.goto (-22), 3) := by decide +kernel
theorem dX4_house_93 : decode cX4_house 93 = .ok (.iload_n 1, 1) := by decide +kernel
theorem dX4_house_94 : decode cX4_house 94 = .ok (.ireturn, 1) := by decide +kernel
set_option maxRecDepth 20000 in
theorem ggX4_panel_X1_hasPanel : GoodIn wsX4_panel wsX1_hasPanel := goodIn_r _ [6, 7, 8, 32, 33, 34, 35, 36, 37, 38, 39, 40, 41, 42] (by decide +kernel) (by decide +kernel)
set_option maxRecDepth 20000 in
theorem gX4_panel_X1_hasPanel_n69 : GoodIn wsX4_panel (wsX1_hasPanel) := ggX4_panel_X1_hasPanel
set_option maxRecDepth 20000 in
theorem ggX4_panel_X1_sortOf : GoodIn wsX4_panel wsX1_sortOf := goodIn_r _ [11, 8, 12, 3, 5, 4, 6, 7, 32, 33, 34, 35, 36, 37, 38, 39, 40, 41, 42] (by decide +kernel) (by decide +kernel)
set_option maxRecDepth 20000 in
theorem gX4_panel_X1_sortOf_n73 : GoodIn wsX4_panel (wsX1_sortOf) := ggX4_panel_X1_sortOf
set_option maxRecDepth 20000 in
theorem ggX4_panel_X4_placeIn : GoodIn wsX4_panel wsX4_placeIn := goodIn_r _ [16] (by decide +kernel) (by decide +kernel)
set_option maxRecDepth 20000 in
theorem gX4_panel_X4_placeIn : GoodIn wsX4_panel (va_wsS RX4 80 yX4_placeIn wsX4_placeIn) := goodIn_app (goodIn_of _ (by decide +kernel)) ggX4_panel_X4_placeIn
theorem dX4_panel_0 : decode cX4_panel 0 = .ok (.aload_n 0, 1) := by decide +kernel
theorem dX4_panel_1 : decode cX4_panel 1 = .ok (.getfield 37, 3) := by decide +kernel
theorem dX4_panel_4 : decode cX4_panel 4 = .ok (.iload_n 1, 1) := by decide +kernel
theorem dX4_panel_5 : decode cX4_panel 5 = .ok (.invokevirtual 69, 3) := by decide +kernel
theorem dX4_panel_8 : decode cX4_panel 8 = .ok (.ifCond .ne 5, 3) := by decide +kernel
theorem dX4_panel_11 : decode cX4_panel 11 = .ok (.iconst (-1), 1) := by decide +kernel
theorem dX4_panel_12 : decode cX4_panel 12 = .ok (.ireturn, 1) := by decide +kernel
theorem dX4_panel_13 : decode cX4_panel 13 = .ok (.iload_n 2, 1) := by decide +kernel
theorem dX4_panel_14 : decode cX4_panel 14 = .ok (.lookupswitch 47 #[(0, 26), (1, 35)], 26) := by decide +kernel
theorem dX4_panel_40 : decode cX4_panel 40 = .ok (.aload_n 0, 1) := by decide +kernel
theorem dX4_panel_41 : decode cX4_panel 41 = .ok (.getfield 37, 3) := by decide +kernel
theorem dX4_panel_44 : decode cX4_panel 44 = .ok (.iload_n 1, 1) := by decide +kernel
theorem dX4_panel_45 : decode cX4_panel 45 = .ok (.invokevirtual 73, 3) := by decide +kernel
theorem dX4_panel_48 : decode cX4_panel 48 = .ok (.ireturn, 1) := by decide +kernel
theorem dX4_panel_49 : decode cX4_panel 49 = .ok (.aload_n 0, 1) := by decide +kernel
theorem dX4_panel_50 : decode cX4_panel 50 = .ok (.getfield 26, 3) := by decide +kernel
theorem dX4_panel_53 : decode cX4_panel 53 = .ok (.getfield 77, 3) := by decide +kernel
theorem dX4_panel_56 : decode cX4_panel 56 = .ok (.iload_n 1, 1) := by decide +kernel
theorem dX4_panel_57 : decode cX4_panel 57 = .ok (.invokestatic 80, 3) := by decide +kernel
theorem dX4_panel_60 : decode cX4_panel 60 = .ok (.ireturn, 1) := by decide +kernel
theorem dX4_panel_61 : decode cX4_panel 61 = .ok (.iconst (-1), 1) := by decide +kernel
theorem dX4_panel_62 : decode cX4_panel 62 = .ok (.ireturn, 1) := by decide +kernel
set_option maxRecDepth 20000 in
theorem ggX4_slot_X4_isSlot : GoodIn wsX4_slot wsX4_isSlot := goodIn_r _ [6] (by decide +kernel) (by decide +kernel)
set_option maxRecDepth 20000 in
theorem gX4_slot_X4_isSlot : GoodIn wsX4_slot (va_wsS RX4 84 yX4_isSlot wsX4_isSlot) := goodIn_app (goodIn_of _ (by decide +kernel)) ggX4_slot_X4_isSlot
set_option maxRecDepth 20000 in
theorem ggX4_slot_X1_panelAt : GoodIn wsX4_slot wsX1_panelAt := goodIn_r _ [10, 11, 12, 5, 13, 29, 30, 31, 32, 33, 34, 35, 36, 37, 38, 39] (by decide +kernel) (by decide +kernel)
set_option maxRecDepth 20000 in
theorem gX4_slot_X1_panelAt_n87 : GoodIn wsX4_slot (wsX1_panelAt) := ggX4_slot_X1_panelAt
theorem dX4_slot_0 : decode cX4_slot 0 = .ok (.iload_n 1, 1) := by decide +kernel
theorem dX4_slot_1 : decode cX4_slot 1 = .ok (.invokestatic 84, 3) := by decide +kernel
theorem dX4_slot_4 : decode cX4_slot 4 = .ok (.ifCond .ne 5, 3) := by decide +kernel
theorem dX4_slot_7 : decode cX4_slot 7 = .ok (.iconst (-1), 1) := by decide +kernel
theorem dX4_slot_8 : decode cX4_slot 8 = .ok (.ireturn, 1) := by decide +kernel
theorem dX4_slot_9 : decode cX4_slot 9 = .ok (.iload_n 2, 1) := by decide +kernel
theorem dX4_slot_10 : decode cX4_slot 10 = .ok (.tableswitch 66 0 2 #[26, 42, 54], 26) := by decide +kernel
theorem dX4_slot_36 : decode cX4_slot 36 = .ok (.aload_n 0, 1) := by decide +kernel
theorem dX4_slot_37 : decode cX4_slot 37 = .ok (.getfield 37, 3) := by decide +kernel
theorem dX4_slot_40 : decode cX4_slot 40 = .ok (.aload_n 0, 1) := by decide +kernel
theorem dX4_slot_41 : decode cX4_slot 41 = .ok (.getfield 26, 3) := by decide +kernel
theorem dX4_slot_44 : decode cX4_slot 44 = .ok (.getfield 77, 3) := by decide +kernel
theorem dX4_slot_47 : decode cX4_slot 47 = .ok (.iload_n 1, 1) := by decide +kernel
theorem dX4_slot_48 : decode cX4_slot 48 = .ok (.invokevirtual 87, 3) := by decide +kernel
theorem dX4_slot_51 : decode cX4_slot 51 = .ok (.ireturn, 1) := by decide +kernel
theorem dX4_slot_52 : decode cX4_slot 52 = .ok (.aload_n 0, 1) := by decide +kernel
theorem dX4_slot_53 : decode cX4_slot 53 = .ok (.getfield 37, 3) := by decide +kernel
theorem dX4_slot_56 : decode cX4_slot 56 = .ok (.getfield 90, 3) := by decide +kernel
theorem dX4_slot_59 : decode cX4_slot 59 = .ok (.iload_n 1, 1) := by decide +kernel
theorem dX4_slot_60 : decode cX4_slot 60 = .ok (.ishr, 1) := by decide +kernel
theorem dX4_slot_61 : decode cX4_slot 61 = .ok (.iconst 1, 1) := by decide +kernel
theorem dX4_slot_62 : decode cX4_slot 62 = .ok (.iand, 1) := by decide +kernel
theorem dX4_slot_63 : decode cX4_slot 63 = .ok (.ireturn, 1) := by decide +kernel
theorem dX4_slot_64 : decode cX4_slot 64 = .ok (.aload_n 0, 1) := by decide +kernel
theorem dX4_slot_65 : decode cX4_slot 65 = .ok (.getfield 37, 3) := by decide +kernel
theorem dX4_slot_68 : decode cX4_slot 68 = .ok (.getfield 93, 3) := by decide +kernel
theorem dX4_slot_71 : decode cX4_slot 71 = .ok (.iload_n 1, 1) := by decide +kernel
theorem dX4_slot_72 : decode cX4_slot 72 = .ok (.ishr, 1) := by decide +kernel
theorem dX4_slot_73 : decode cX4_slot 73 = .ok (.iconst 1, 1) := by decide +kernel
theorem dX4_slot_74 : decode cX4_slot 74 = .ok (.iand, 1) := by decide +kernel
theorem dX4_slot_75 : decode cX4_slot 75 = .ok (.ireturn, 1) := by decide +kernel
theorem dX4_slot_76 : decode cX4_slot 76 = .ok (.iconst (-1), 1) := by decide +kernel
theorem dX4_slot_77 : decode cX4_slot 77 = .ok (.ireturn, 1) := by decide +kernel
theorem dX4_told_0 : decode cX4_told 0 = .ok (.iload_n 1, 1) := by decide +kernel
theorem dX4_told_1 : decode cX4_told 1 = .ok (.tableswitch 63 0 3 #[31, 39, 47, 55], 31) := by decide +kernel
theorem dX4_told_32 : decode cX4_told 32 = .ok (.aload_n 0, 1) := by decide +kernel
theorem dX4_told_33 : decode cX4_told 33 = .ok (.getfield 37, 3) := by decide +kernel
theorem dX4_told_36 : decode cX4_told 36 = .ok (.getfield 96, 3) := by decide +kernel
theorem dX4_told_39 : decode cX4_told 39 = .ok (.ireturn, 1) := by decide +kernel
theorem dX4_told_40 : decode cX4_told 40 = .ok (.aload_n 0, 1) := by decide +kernel
theorem dX4_told_41 : decode cX4_told 41 = .ok (.getfield 37, 3) := by decide +kernel
theorem dX4_told_44 : decode cX4_told 44 = .ok (.getfield 99, 3) := by decide +kernel
theorem dX4_told_47 : decode cX4_told 47 = .ok (.ireturn, 1) := by decide +kernel
theorem dX4_told_48 : decode cX4_told 48 = .ok (.aload_n 0, 1) := by decide +kernel
theorem dX4_told_49 : decode cX4_told 49 = .ok (.getfield 37, 3) := by decide +kernel
theorem dX4_told_52 : decode cX4_told 52 = .ok (.getfield 102, 3) := by decide +kernel
theorem dX4_told_55 : decode cX4_told 55 = .ok (.ireturn, 1) := by decide +kernel
theorem dX4_told_56 : decode cX4_told 56 = .ok (.aload_n 0, 1) := by decide +kernel
theorem dX4_told_57 : decode cX4_told 57 = .ok (.getfield 37, 3) := by decide +kernel
theorem dX4_told_60 : decode cX4_told 60 = .ok (.getfield 105, 3) := by decide +kernel
theorem dX4_told_63 : decode cX4_told 63 = .ok (.ireturn, 1) := by decide +kernel
theorem dX4_told_64 : decode cX4_told 64 = .ok (.iconst (-1), 1) := by decide +kernel
theorem dX4_told_65 : decode cX4_told 65 = .ok (.ireturn, 1) := by decide +kernel
set_option maxRecDepth 20000 in
theorem ggX4_beam_X1_hasBeam : GoodIn wsX4_beam wsX1_hasBeam := goodIn_r _ [6, 7, 8, 40, 41, 42, 43, 44, 45, 46, 47, 48, 49, 50] (by decide +kernel) (by decide +kernel)
set_option maxRecDepth 20000 in
theorem gX4_beam_X1_hasBeam_n108 : GoodIn wsX4_beam (wsX1_hasBeam) := ggX4_beam_X1_hasBeam
set_option maxRecDepth 20000 in
theorem ggX4_beam_X1_isBorne : GoodIn wsX4_beam wsX1_isBorne := goodIn_r _ [11, 8, 12, 3, 5, 4, 6, 7, 13, 14, 15, 16, 17, 18, 19, 20, 21, 40, 41, 42, 43, 44, 45, 46, 47, 48, 49, 50] (by decide +kernel) (by decide +kernel)
set_option maxRecDepth 20000 in
theorem gX4_beam_X1_isBorne_n111 : GoodIn wsX4_beam (wsX1_isBorne) := ggX4_beam_X1_isBorne
set_option maxRecDepth 20000 in
theorem ggX4_beam_X4_asNumber : GoodIn wsX4_beam wsX4_asNumber := goodIn_r _ [24] (by decide +kernel) (by decide +kernel)
set_option maxRecDepth 20000 in
theorem gX4_beam_X4_asNumber : GoodIn wsX4_beam (va_wsS RX4 115 yX4_asNumber wsX4_asNumber) := goodIn_app (goodIn_of _ (by decide +kernel)) ggX4_beam_X4_asNumber
theorem dX4_beam_0 : decode cX4_beam 0 = .ok (.aload_n 0, 1) := by decide +kernel
theorem dX4_beam_1 : decode cX4_beam 1 = .ok (.getfield 37, 3) := by decide +kernel
theorem dX4_beam_4 : decode cX4_beam 4 = .ok (.iload_n 1, 1) := by decide +kernel
theorem dX4_beam_5 : decode cX4_beam 5 = .ok (.invokevirtual 108, 3) := by decide +kernel
theorem dX4_beam_8 : decode cX4_beam 8 = .ok (.ifCond .ne 5, 3) := by decide +kernel
theorem dX4_beam_11 : decode cX4_beam 11 = .ok (.iconst (-1), 1) := by decide +kernel
theorem dX4_beam_12 : decode cX4_beam 12 = .ok (.ireturn, 1) := by decide +kernel
theorem dX4_beam_13 : decode cX4_beam 13 = .ok (.aload_n 0, 1) := by decide +kernel
theorem dX4_beam_14 : decode cX4_beam 14 = .ok (.getfield 37, 3) := by decide +kernel
theorem dX4_beam_17 : decode cX4_beam 17 = .ok (.aload_n 0, 1) := by decide +kernel
theorem dX4_beam_18 : decode cX4_beam 18 = .ok (.getfield 26, 3) := by decide +kernel
theorem dX4_beam_21 : decode cX4_beam 21 = .ok (.getfield 77, 3) := by decide +kernel
theorem dX4_beam_24 : decode cX4_beam 24 = .ok (.iload_n 1, 1) := by decide +kernel
theorem dX4_beam_25 : decode cX4_beam 25 = .ok (.invokevirtual 111, 3) := by decide +kernel
theorem dX4_beam_28 : decode cX4_beam 28 = .ok (.invokestatic 115, 3) := by decide +kernel
theorem dX4_beam_31 : decode cX4_beam 31 = .ok (.ireturn, 1) := by decide +kernel
set_option maxRecDepth 20000 in
theorem ggX4_down_X1_hasPanel : GoodIn wsX4_down wsX1_hasPanel := goodIn_r _ [6, 7, 8, 67, 68, 69, 70, 71, 72, 73, 74, 75, 76, 77] (by decide +kernel) (by decide +kernel)
set_option maxRecDepth 20000 in
theorem gX4_down_X1_hasPanel_n69 : GoodIn wsX4_down (wsX1_hasPanel) := ggX4_down_X1_hasPanel
set_option maxRecDepth 20000 in
theorem ggX4_down_X4_placeIn : GoodIn wsX4_down wsX4_placeIn := goodIn_r _ [12] (by decide +kernel) (by decide +kernel)
set_option maxRecDepth 20000 in
theorem gX4_down_X4_placeIn : GoodIn wsX4_down (va_wsS RX4 80 yX4_placeIn wsX4_placeIn) := goodIn_app (goodIn_of _ (by decide +kernel)) ggX4_down_X4_placeIn
set_option maxRecDepth 20000 in
theorem ggX4_down_X4_act : GoodIn wsX4_down wsX4_act := goodIn_r _ [16, 2, 1, 17, 18, 11, 19, 9, 10, 12, 20, 21, 22, 23, 4, 24, 25, 26, 7, 27, 28, 29, 30, 31, 32, 33, 34, 35, 8, 36, 37, 38, 39, 40, 41, 42, 43, 44, 45, 46, 47, 48, 49, 50, 51, 52, 53, 54, 55, 56, 57, 58, 59, 60, 61, 62, 63, 64, 65, 66, 67, 68, 69, 70, 71, 72, 73, 74, 75, 76, 77] (by decide +kernel) (by decide +kernel)
set_option maxRecDepth 20000 in
theorem gX4_down_X4_act : GoodIn wsX4_down (wsV RX4 119 RX4 yX4_act wsX4_act) := goodIn_app (goodIn_of _ (by decide +kernel)) ggX4_down_X4_act
theorem dX4_down_0 : decode cX4_down 0 = .ok (.aload_n 0, 1) := by decide +kernel
theorem dX4_down_1 : decode cX4_down 1 = .ok (.getfield 37, 3) := by decide +kernel
theorem dX4_down_4 : decode cX4_down 4 = .ok (.iload_n 1, 1) := by decide +kernel
theorem dX4_down_5 : decode cX4_down 5 = .ok (.invokevirtual 69, 3) := by decide +kernel
theorem dX4_down_8 : decode cX4_down 8 = .ok (.ifCond .ne 5, 3) := by decide +kernel
theorem dX4_down_11 : decode cX4_down 11 = .ok (.iconst (-1), 1) := by decide +kernel
theorem dX4_down_12 : decode cX4_down 12 = .ok (.ireturn, 1) := by decide +kernel
theorem dX4_down_13 : decode cX4_down 13 = .ok (.aload_n 0, 1) := by decide +kernel
theorem dX4_down_14 : decode cX4_down 14 = .ok (.getfield 26, 3) := by decide +kernel
theorem dX4_down_17 : decode cX4_down 17 = .ok (.getfield 77, 3) := by decide +kernel
theorem dX4_down_20 : decode cX4_down 20 = .ok (.iload_n 1, 1) := by decide +kernel
theorem dX4_down_21 : decode cX4_down 21 = .ok (.invokestatic 80, 3) := by decide +kernel
theorem dX4_down_24 : decode cX4_down 24 = .ok (.bipush 8, 2) := by decide +kernel
theorem dX4_down_26 : decode cX4_down 26 = .ok (.if_icmp .ne 6, 3) := by decide +kernel
theorem dX4_down_29 : decode cX4_down 29 = .ok (.bipush (-2), 2) := by decide +kernel
theorem dX4_down_31 : decode cX4_down 31 = .ok (.ireturn, 1) := by decide +kernel
theorem dX4_down_32 : decode cX4_down 32 = .ok (.aload_n 0, 1) := by decide +kernel
theorem dX4_down_33 : decode cX4_down 33 = .ok (.iload_n 1, 1) := by decide +kernel
theorem dX4_down_34 : decode cX4_down 34 = .ok (.bipush 8, 2) := by decide +kernel
theorem dX4_down_36 : decode cX4_down 36 = .ok (.invokevirtual 119, 3) := by decide +kernel
theorem dX4_down_39 : decode cX4_down 39 = .ok (.ireturn, 1) := by decide +kernel
set_option maxRecDepth 20000 in
theorem ggX4_up_X1_hasPanel : GoodIn wsX4_up wsX1_hasPanel := goodIn_r _ [6, 7, 8, 73, 74, 75, 76, 77, 78, 79, 80, 81, 82, 83] (by decide +kernel) (by decide +kernel)
set_option maxRecDepth 20000 in
theorem gX4_up_X1_hasPanel_n69 : GoodIn wsX4_up (wsX1_hasPanel) := ggX4_up_X1_hasPanel
set_option maxRecDepth 20000 in
theorem ggX4_up_X4_isSlot : GoodIn wsX4_up wsX4_isSlot := goodIn_r _ [12] (by decide +kernel) (by decide +kernel)
set_option maxRecDepth 20000 in
theorem gX4_up_X4_isSlot : GoodIn wsX4_up (va_wsS RX4 84 yX4_isSlot wsX4_isSlot) := goodIn_app (goodIn_of _ (by decide +kernel)) ggX4_up_X4_isSlot
set_option maxRecDepth 20000 in
theorem ggX4_up_X4_placeIn : GoodIn wsX4_up wsX4_placeIn := goodIn_r _ [15] (by decide +kernel) (by decide +kernel)
set_option maxRecDepth 20000 in
theorem gX4_up_X4_placeIn : GoodIn wsX4_up (va_wsS RX4 80 yX4_placeIn wsX4_placeIn) := goodIn_app (goodIn_of _ (by decide +kernel)) ggX4_up_X4_placeIn
set_option maxRecDepth 20000 in
theorem ggX4_up_X1_panelAt : GoodIn wsX4_up wsX1_panelAt := goodIn_r _ [18, 7, 14, 11, 15, 73, 74, 75, 76, 77, 78, 79, 80, 81, 82, 83] (by decide +kernel) (by decide +kernel)
set_option maxRecDepth 20000 in
theorem gX4_up_X1_panelAt_n87 : GoodIn wsX4_up (wsX1_panelAt) := ggX4_up_X1_panelAt
set_option maxRecDepth 20000 in
theorem ggX4_up_X4_act : GoodIn wsX4_up wsX4_act := goodIn_r _ [22, 2, 1, 23, 24, 11, 25, 13, 14, 15, 26, 27, 28, 29, 4, 30, 31, 32, 7, 33, 34, 35, 36, 37, 38, 39, 40, 41, 8, 42, 43, 44, 45, 46, 47, 48, 49, 50, 51, 52, 53, 54, 55, 56, 57, 58, 59, 60, 61, 62, 63, 64, 65, 66, 67, 68, 69, 70, 71, 72, 73, 74, 75, 76, 77, 78, 79, 80, 81, 82, 83] (by decide +kernel) (by decide +kernel)
set_option maxRecDepth 20000 in
theorem gX4_up_X4_act : GoodIn wsX4_up (wsV RX4 119 RX4 yX4_act wsX4_act) := goodIn_app (goodIn_of _ (by decide +kernel)) ggX4_up_X4_act
theorem dX4_up_0 : decode cX4_up 0 = .ok (.aload_n 0, 1) := by decide +kernel
theorem dX4_up_1 : decode cX4_up 1 = .ok (.getfield 37, 3) := by decide +kernel
theorem dX4_up_4 : decode cX4_up 4 = .ok (.iload_n 1, 1) := by decide +kernel
theorem dX4_up_5 : decode cX4_up 5 = .ok (.invokevirtual 69, 3) := by decide +kernel
theorem dX4_up_8 : decode cX4_up 8 = .ok (.ifCond .eq 10, 3) := by decide +kernel
theorem dX4_up_11 : decode cX4_up 11 = .ok (.iload_n 2, 1) := by decide +kernel
theorem dX4_up_12 : decode cX4_up 12 = .ok (.invokestatic 84, 3) := by decide +kernel
theorem dX4_up_15 : decode cX4_up 15 = .ok (.ifCond .ne 5, 3) := by decide +kernel
theorem dX4_up_18 : decode cX4_up 18 = .ok (.iconst (-1), 1) := by decide +kernel
theorem dX4_up_19 : decode cX4_up 19 = .ok (.ireturn, 1) := by decide +kernel
theorem dX4_up_20 : decode cX4_up 20 = .ok (.aload_n 0, 1) := by decide +kernel
theorem dX4_up_21 : decode cX4_up 21 = .ok (.getfield 26, 3) := by decide +kernel
theorem dX4_up_24 : decode cX4_up 24 = .ok (.getfield 77, 3) := by decide +kernel
theorem dX4_up_27 : decode cX4_up 27 = .ok (.iload_n 1, 1) := by decide +kernel
theorem dX4_up_28 : decode cX4_up 28 = .ok (.invokestatic 80, 3) := by decide +kernel
theorem dX4_up_31 : decode cX4_up 31 = .ok (.bipush 8, 2) := by decide +kernel
theorem dX4_up_33 : decode cX4_up 33 = .ok (.if_icmp .ne 23, 3) := by decide +kernel
theorem dX4_up_36 : decode cX4_up 36 = .ok (.aload_n 0, 1) := by decide +kernel
theorem dX4_up_37 : decode cX4_up 37 = .ok (.getfield 37, 3) := by decide +kernel
theorem dX4_up_40 : decode cX4_up 40 = .ok (.aload_n 0, 1) := by decide +kernel
theorem dX4_up_41 : decode cX4_up 41 = .ok (.getfield 26, 3) := by decide +kernel
theorem dX4_up_44 : decode cX4_up 44 = .ok (.getfield 77, 3) := by decide +kernel
theorem dX4_up_47 : decode cX4_up 47 = .ok (.iload_n 2, 1) := by decide +kernel
theorem dX4_up_48 : decode cX4_up 48 = .ok (.invokevirtual 87, 3) := by decide +kernel
theorem dX4_up_51 : decode cX4_up 51 = .ok (.bipush (-9), 2) := by decide +kernel
theorem dX4_up_53 : decode cX4_up 53 = .ok (.if_icmp .eq 6, 3) := by decide +kernel
theorem dX4_up_56 : decode cX4_up 56 = .ok (.bipush (-2), 2) := by decide +kernel
theorem dX4_up_58 : decode cX4_up 58 = .ok (.ireturn, 1) := by decide +kernel
theorem dX4_up_59 : decode cX4_up 59 = .ok (.aload_n 0, 1) := by decide +kernel
theorem dX4_up_60 : decode cX4_up 60 = .ok (.iload_n 1, 1) := by decide +kernel
theorem dX4_up_61 : decode cX4_up 61 = .ok (.iload_n 2, 1) := by decide +kernel
theorem dX4_up_62 : decode cX4_up 62 = .ok (.invokevirtual 119, 3) := by decide +kernel
theorem dX4_up_65 : decode cX4_up 65 = .ok (.ireturn, 1) := by decide +kernel
set_option maxRecDepth 20000 in
theorem ggX4_night_X1_leaksOf : GoodIn wsX4_night wsX1_leaksOf := goodIn_r _ [6, 7, 8, 9, 10, 4, 11, 12, 13, 14, 15, 16, 17, 18, 19, 20, 21, 22, 23, 39, 40, 41, 42, 43, 44, 45, 46, 47, 48, 49] (by decide +kernel) (by decide +kernel)
set_option maxRecDepth 20000 in
theorem gX4_night_X1_leaksOf_n125 : GoodIn wsX4_night (wsX1_leaksOf) := ggX4_night_X1_leaksOf
theorem dX4_night_0 : decode cX4_night 0 = .ok (.aload_n 0, 1) := by decide +kernel
theorem dX4_night_1 : decode cX4_night 1 = .ok (.getfield 26, 3) := by decide +kernel
theorem dX4_night_4 : decode cX4_night 4 = .ok (.getfield 122, 3) := by decide +kernel
theorem dX4_night_7 : decode cX4_night 7 = .ok (.sipush 999, 3) := by decide +kernel
theorem dX4_night_10 : decode cX4_night 10 = .ok (.if_icmp .lt 6, 3) := by decide +kernel
theorem dX4_night_13 : decode cX4_night 13 = .ok (.bipush (-2), 2) := by decide +kernel
theorem dX4_night_15 : decode cX4_night 15 = .ok (.ireturn, 1) := by decide +kernel
theorem dX4_night_16 : decode cX4_night 16 = .ok (.aload_n 0, 1) := by decide +kernel
theorem dX4_night_17 : decode cX4_night 17 = .ok (.getfield 37, 3) := by decide +kernel
theorem dX4_night_20 : decode cX4_night 20 = .ok (.aload_n 0, 1) := by decide +kernel
theorem dX4_night_21 : decode cX4_night 21 = .ok (.getfield 26, 3) := by decide +kernel
theorem dX4_night_24 : decode cX4_night 24 = .ok (.getfield 77, 3) := by decide +kernel
theorem dX4_night_27 : decode cX4_night 27 = .ok (.invokevirtual 125, 3) := by decide +kernel
theorem dX4_night_30 : decode cX4_night 30 = .ok (.istore_n 1, 1) := by decide +kernel
theorem dX4_night_31 : decode cX4_night 31 = .ok (.aload_n 0, 1) := by decide +kernel
theorem dX4_night_32 : decode cX4_night 32 = .ok (.getfield 26, 3) := by decide +kernel
theorem dX4_night_35 : decode cX4_night 35 = .ok (.dup, 1) := by decide +kernel
theorem dX4_night_36 : decode cX4_night 36 = .ok (.getfield 128, 3) := by decide +kernel
theorem dX4_night_39 : decode cX4_night 39 = .ok (.iload_n 1, 1) := by decide +kernel
theorem dX4_night_40 : decode cX4_night 40 = .ok (.iadd, 1) := by decide +kernel
theorem dX4_night_41 : decode cX4_night 41 = .ok (.putfield 128, 3) := by decide +kernel
theorem dX4_night_44 : decode cX4_night 44 = .ok (.aload_n 0, 1) := by decide +kernel
theorem dX4_night_45 : decode cX4_night 45 = .ok (.getfield 26, 3) := by decide +kernel
theorem dX4_night_48 : decode cX4_night 48 = .ok (.dup, 1) := by decide +kernel
theorem dX4_night_49 : decode cX4_night 49 = .ok (.getfield 122, 3) := by decide +kernel
theorem dX4_night_52 : decode cX4_night 52 = .ok (.iconst 1, 1) := by decide +kernel
theorem dX4_night_53 : decode cX4_night 53 = .ok (.iadd, 1) := by decide +kernel
theorem dX4_night_54 : decode cX4_night 54 = .ok (.putfield 122, 3) := by decide +kernel
theorem dX4_night_57 : decode cX4_night 57 = .ok (.aload_n 0, 1) := by decide +kernel
theorem dX4_night_58 : decode cX4_night 58 = .ok (.getfield 26, 3) := by decide +kernel
theorem dX4_night_61 : decode cX4_night 61 = .ok (.iconst 0, 1) := by decide +kernel
theorem dX4_night_62 : decode cX4_night 62 = .ok (.putfield 131, 3) := by decide +kernel
theorem dX4_night_65 : decode cX4_night 65 = .ok (.iload_n 1, 1) := by decide +kernel
theorem dX4_night_66 : decode cX4_night 66 = .ok (.ireturn, 1) := by decide +kernel
set_option maxRecDepth 20000 in
theorem ggX4_now_X1_worthOf : GoodIn wsX4_now wsX1_worthOf := goodIn_r _ [7, 8, 9, 10, 11, 12, 5, 13, 14, 15, 16, 17, 18, 19, 20, 21, 22, 23, 24, 25, 26, 27, 28, 29, 30, 31, 32, 33, 34, 35, 36, 37, 38, 39, 76, 77, 78, 79, 80, 81, 82, 83, 84, 85, 86] (by decide +kernel) (by decide +kernel)
set_option maxRecDepth 20000 in
theorem gX4_now_X1_worthOf_n134 : GoodIn wsX4_now (wsX1_worthOf) := ggX4_now_X1_worthOf
set_option maxRecDepth 20000 in
theorem ggX4_now_X1_allows : GoodIn wsX4_now wsX1_allows := goodIn_r _ [42, 43, 19, 44, 45, 46, 47, 5, 48, 21, 22, 23, 15, 16, 17, 18, 20, 24, 25, 26, 27, 28, 29, 30, 49, 50, 51, 52, 53, 54, 55, 56, 57, 76, 77, 78, 79, 80, 81, 82, 83, 84, 85, 86] (by decide +kernel) (by decide +kernel)
set_option maxRecDepth 20000 in
theorem gX4_now_X1_allows_n137 : GoodIn wsX4_now (wsX1_allows) := ggX4_now_X1_allows
set_option maxRecDepth 20000 in
theorem ggX4_now_X4_asNumber : GoodIn wsX4_now wsX4_asNumber := goodIn_r _ [60] (by decide +kernel) (by decide +kernel)
set_option maxRecDepth 20000 in
theorem gX4_now_X4_asNumber : GoodIn wsX4_now (va_wsS RX4 115 yX4_asNumber wsX4_asNumber) := goodIn_app (goodIn_of _ (by decide +kernel)) ggX4_now_X4_asNumber
set_option maxRecDepth 20000 in
theorem ggX4_now_X1_leaksOf : GoodIn wsX4_now wsX1_leaksOf := goodIn_r _ [34, 35, 15, 16, 17, 5, 18, 19, 20, 21, 22, 23, 24, 25, 26, 27, 28, 29, 30, 76, 77, 78, 79, 80, 81, 82, 83, 84, 85, 86] (by decide +kernel) (by decide +kernel)
set_option maxRecDepth 20000 in
theorem gX4_now_X1_leaksOf_n125 : GoodIn wsX4_now (wsX1_leaksOf) := ggX4_now_X1_leaksOf
theorem dX4_now_0 : decode cX4_now 0 = .ok (.iload_n 1, 1) := by decide +kernel
theorem dX4_now_1 : decode cX4_now 1 = .ok (.tableswitch 111 0 5 #[39, 47, 55, 63, 78, 96], 39) := by decide +kernel
theorem dX4_now_40 : decode cX4_now 40 = .ok (.aload_n 0, 1) := by decide +kernel
theorem dX4_now_41 : decode cX4_now 41 = .ok (.getfield 26, 3) := by decide +kernel
theorem dX4_now_44 : decode cX4_now 44 = .ok (.getfield 122, 3) := by decide +kernel
theorem dX4_now_47 : decode cX4_now 47 = .ok (.ireturn, 1) := by decide +kernel
theorem dX4_now_48 : decode cX4_now 48 = .ok (.aload_n 0, 1) := by decide +kernel
theorem dX4_now_49 : decode cX4_now 49 = .ok (.getfield 26, 3) := by decide +kernel
theorem dX4_now_52 : decode cX4_now 52 = .ok (.getfield 131, 3) := by decide +kernel
theorem dX4_now_55 : decode cX4_now 55 = .ok (.ireturn, 1) := by decide +kernel
theorem dX4_now_56 : decode cX4_now 56 = .ok (.aload_n 0, 1) := by decide +kernel
theorem dX4_now_57 : decode cX4_now 57 = .ok (.getfield 26, 3) := by decide +kernel
theorem dX4_now_60 : decode cX4_now 60 = .ok (.getfield 128, 3) := by decide +kernel
theorem dX4_now_63 : decode cX4_now 63 = .ok (.ireturn, 1) := by decide +kernel
theorem dX4_now_64 : decode cX4_now 64 = .ok (.aload_n 0, 1) := by decide +kernel
theorem dX4_now_65 : decode cX4_now 65 = .ok (.getfield 37, 3) := by decide +kernel
theorem dX4_now_68 : decode cX4_now 68 = .ok (.aload_n 0, 1) := by decide +kernel
theorem dX4_now_69 : decode cX4_now 69 = .ok (.getfield 26, 3) := by decide +kernel
theorem dX4_now_72 : decode cX4_now 72 = .ok (.getfield 77, 3) := by decide +kernel
theorem dX4_now_75 : decode cX4_now 75 = .ok (.invokevirtual 134, 3) := by decide +kernel
theorem dX4_now_78 : decode cX4_now 78 = .ok (.ireturn, 1) := by decide +kernel
theorem dX4_now_79 : decode cX4_now 79 = .ok (.aload_n 0, 1) := by decide +kernel
theorem dX4_now_80 : decode cX4_now 80 = .ok (.getfield 37, 3) := by decide +kernel
theorem dX4_now_83 : decode cX4_now 83 = .ok (.aload_n 0, 1) := by decide +kernel
theorem dX4_now_84 : decode cX4_now 84 = .ok (.getfield 26, 3) := by decide +kernel
theorem dX4_now_87 : decode cX4_now 87 = .ok (.getfield 77, 3) := by decide +kernel
theorem dX4_now_90 : decode cX4_now 90 = .ok (.invokevirtual 137, 3) := by decide +kernel
theorem dX4_now_93 : decode cX4_now 93 = .ok (.invokestatic 115, 3) := by decide +kernel
theorem dX4_now_96 : decode cX4_now 96 = .ok (.ireturn, 1) := by decide +kernel
theorem dX4_now_97 : decode cX4_now 97 = .ok (.aload_n 0, 1) := by decide +kernel
theorem dX4_now_98 : decode cX4_now 98 = .ok (.getfield 37, 3) := by decide +kernel
theorem dX4_now_101 : decode cX4_now 101 = .ok (.aload_n 0, 1) := by decide +kernel
theorem dX4_now_102 : decode cX4_now 102 = .ok (.getfield 26, 3) := by decide +kernel
theorem dX4_now_105 : decode cX4_now 105 = .ok (.getfield 77, 3) := by decide +kernel
theorem dX4_now_108 : decode cX4_now 108 = .ok (.invokevirtual 125, 3) := by decide +kernel
theorem dX4_now_111 : decode cX4_now 111 = .ok (.ireturn, 1) := by decide +kernel
theorem dX4_now_112 : decode cX4_now 112 = .ok (.ldc 140, 2) := by decide +kernel
theorem dX4_now_114 : decode cX4_now 114 = .ok (.ireturn, 1) := by decide +kernel
set_option maxRecDepth 20000 in
theorem ggX4_lit_X4_isSlot : GoodIn wsX4_lit wsX4_isSlot := goodIn_r _ [6] (by decide +kernel) (by decide +kernel)
set_option maxRecDepth 20000 in
theorem gX4_lit_X4_isSlot : GoodIn wsX4_lit (va_wsS RX4 84 yX4_isSlot wsX4_isSlot) := goodIn_app (goodIn_of _ (by decide +kernel)) ggX4_lit_X4_isSlot
set_option maxRecDepth 20000 in
theorem ggX4_lit_X1_litHours : GoodIn wsX4_lit wsX1_litHours := goodIn_r _ [10, 11, 12, 13, 14, 8, 15, 16, 17, 18, 5, 19, 35, 36, 37, 38, 39, 40, 41, 42, 43, 44, 45] (by decide +kernel) (by decide +kernel)
set_option maxRecDepth 20000 in
theorem gX4_lit_X1_litHours_n141 : GoodIn wsX4_lit (wsX1_litHours) := ggX4_lit_X1_litHours
theorem dX4_lit_0 : decode cX4_lit 0 = .ok (.iload_n 1, 1) := by decide +kernel
theorem dX4_lit_1 : decode cX4_lit 1 = .ok (.invokestatic 84, 3) := by decide +kernel
theorem dX4_lit_4 : decode cX4_lit 4 = .ok (.ifCond .ne 5, 3) := by decide +kernel
theorem dX4_lit_7 : decode cX4_lit 7 = .ok (.iconst (-1), 1) := by decide +kernel
theorem dX4_lit_8 : decode cX4_lit 8 = .ok (.ireturn, 1) := by decide +kernel
theorem dX4_lit_9 : decode cX4_lit 9 = .ok (.aload_n 0, 1) := by decide +kernel
theorem dX4_lit_10 : decode cX4_lit 10 = .ok (.getfield 37, 3) := by decide +kernel
theorem dX4_lit_13 : decode cX4_lit 13 = .ok (.aload_n 0, 1) := by decide +kernel
theorem dX4_lit_14 : decode cX4_lit 14 = .ok (.getfield 26, 3) := by decide +kernel
theorem dX4_lit_17 : decode cX4_lit 17 = .ok (.getfield 77, 3) := by decide +kernel
theorem dX4_lit_20 : decode cX4_lit 20 = .ok (.invokevirtual 141, 3) := by decide +kernel
theorem dX4_lit_23 : decode cX4_lit 23 = .ok (.iload_n 1, 1) := by decide +kernel
theorem dX4_lit_24 : decode cX4_lit 24 = .ok (.ishr, 1) := by decide +kernel
theorem dX4_lit_25 : decode cX4_lit 25 = .ok (.iconst 1, 1) := by decide +kernel
theorem dX4_lit_26 : decode cX4_lit 26 = .ok (.iand, 1) := by decide +kernel
theorem dX4_lit_27 : decode cX4_lit 27 = .ok (.ireturn, 1) := by decide +kernel
set_option maxRecDepth 20000 in
theorem ggX4_fewest_X4_isImage : GoodIn wsX4_fewest wsX4_isImage := goodIn_r _ [9, 1, 87, 88, 89, 90, 91, 92, 93] (by decide +kernel) (by decide +kernel)
set_option maxRecDepth 20000 in
theorem gX4_fewest_X4_isImage : GoodIn wsX4_fewest (wsV RX4 144 RX4 yX4_isImage wsX4_isImage) := goodIn_app (goodIn_of _ (by decide +kernel)) ggX4_fewest_X4_isImage
set_option maxRecDepth 20000 in
theorem ggX4_fewest_X2_fewestActs : GoodIn wsX4_fewest wsX2_fewestActs := goodIn_r _ [13, 14, 15, 16, 11, 17, 18, 19, 20, 8, 21, 22, 23, 24, 25, 26, 27, 28, 29, 30, 31, 32, 33, 34, 35, 36, 37, 38, 39, 40, 41, 42, 43, 44, 45, 46, 47, 48, 49, 50, 51, 52, 53, 54, 55, 56, 57, 58, 59, 60, 61, 62, 63, 64, 65, 66, 67, 68, 69, 70, 71, 72, 73, 74, 75, 76, 77, 78, 79, 80, 81, 82, 83, 84, 85, 86, 102, 103, 104, 105, 106, 107, 108, 109, 110, 111, 112, 113, 114, 115, 116, 117] (by decide +kernel) (by decide +kernel)
set_option maxRecDepth 20000 in
theorem gX4_fewest_X2_fewestActs_n147 : GoodIn wsX4_fewest (wsX2_fewestActs) := ggX4_fewest_X2_fewestActs
theorem dX4_fewest_0 : decode cX4_fewest 0 = .ok (.aload_n 0, 1) := by decide +kernel
theorem dX4_fewest_1 : decode cX4_fewest 1 = .ok (.iload_n 1, 1) := by decide +kernel
theorem dX4_fewest_2 : decode cX4_fewest 2 = .ok (.invokevirtual 144, 3) := by decide +kernel
theorem dX4_fewest_5 : decode cX4_fewest 5 = .ok (.ifCond .ne 5, 3) := by decide +kernel
theorem dX4_fewest_8 : decode cX4_fewest 8 = .ok (.iconst (-1), 1) := by decide +kernel
theorem dX4_fewest_9 : decode cX4_fewest 9 = .ok (.ireturn, 1) := by decide +kernel
theorem dX4_fewest_10 : decode cX4_fewest 10 = .ok (.aload_n 0, 1) := by decide +kernel
theorem dX4_fewest_11 : decode cX4_fewest 11 = .ok (.getfield 30, 3) := by decide +kernel
theorem dX4_fewest_14 : decode cX4_fewest 14 = .ok (.iload_n 1, 1) := by decide +kernel
theorem dX4_fewest_15 : decode cX4_fewest 15 = .ok (.aaload, 1) := by decide +kernel
theorem dX4_fewest_16 : decode cX4_fewest 16 = .ok (.getfield 66, 3) := by decide +kernel
theorem dX4_fewest_19 : decode cX4_fewest 19 = .ok (.ifCond .ne 6, 3) := by decide +kernel
theorem dX4_fewest_22 : decode cX4_fewest 22 = .ok (.bipush (-2), 2) := by decide +kernel
theorem dX4_fewest_24 : decode cX4_fewest 24 = .ok (.ireturn, 1) := by decide +kernel
theorem dX4_fewest_25 : decode cX4_fewest 25 = .ok (.aload_n 0, 1) := by decide +kernel
theorem dX4_fewest_26 : decode cX4_fewest 26 = .ok (.getfield 19, 3) := by decide +kernel
theorem dX4_fewest_29 : decode cX4_fewest 29 = .ok (.aload_n 0, 1) := by decide +kernel
theorem dX4_fewest_30 : decode cX4_fewest 30 = .ok (.getfield 37, 3) := by decide +kernel
theorem dX4_fewest_33 : decode cX4_fewest 33 = .ok (.aload_n 0, 1) := by decide +kernel
theorem dX4_fewest_34 : decode cX4_fewest 34 = .ok (.getfield 26, 3) := by decide +kernel
theorem dX4_fewest_37 : decode cX4_fewest 37 = .ok (.getfield 77, 3) := by decide +kernel
theorem dX4_fewest_40 : decode cX4_fewest 40 = .ok (.aload_n 0, 1) := by decide +kernel
theorem dX4_fewest_41 : decode cX4_fewest 41 = .ok (.getfield 30, 3) := by decide +kernel
theorem dX4_fewest_44 : decode cX4_fewest 44 = .ok (.iload_n 1, 1) := by decide +kernel
theorem dX4_fewest_45 : decode cX4_fewest 45 = .ok (.aaload, 1) := by decide +kernel
theorem dX4_fewest_46 : decode cX4_fewest 46 = .ok (.getfield 77, 3) := by decide +kernel
theorem dX4_fewest_49 : decode cX4_fewest 49 = .ok (.invokevirtual 147, 3) := by decide +kernel
theorem dX4_fewest_52 : decode cX4_fewest 52 = .ok (.ireturn, 1) := by decide +kernel
set_option maxRecDepth 20000 in
theorem ggX4_first_X4_isImage : GoodIn wsX4_first wsX4_isImage := goodIn_r _ [9, 1, 87, 88, 89, 90, 91, 92, 93] (by decide +kernel) (by decide +kernel)
set_option maxRecDepth 20000 in
theorem gX4_first_X4_isImage : GoodIn wsX4_first (wsV RX4 144 RX4 yX4_isImage wsX4_isImage) := goodIn_app (goodIn_of _ (by decide +kernel)) ggX4_first_X4_isImage
set_option maxRecDepth 20000 in
theorem ggX4_first_X2_firstAct : GoodIn wsX4_first wsX2_firstAct := goodIn_r _ [13, 14, 15, 16, 11, 17, 18, 19, 20, 8, 21, 22, 23, 24, 25, 26, 27, 28, 29, 30, 31, 32, 33, 34, 35, 36, 37, 38, 39, 40, 41, 42, 43, 44, 45, 46, 47, 48, 49, 50, 51, 52, 53, 54, 55, 56, 57, 58, 59, 60, 61, 62, 63, 64, 65, 66, 67, 68, 69, 70, 71, 72, 73, 74, 75, 76, 77, 78, 79, 80, 81, 82, 83, 84, 85, 86, 102, 103, 104, 105, 106, 107, 108, 109, 110, 111, 112, 113, 114, 115, 116, 117] (by decide +kernel) (by decide +kernel)
set_option maxRecDepth 20000 in
theorem gX4_first_X2_firstAct_n151 : GoodIn wsX4_first (wsX2_firstAct) := ggX4_first_X2_firstAct
theorem dX4_first_0 : decode cX4_first 0 = .ok (.aload_n 0, 1) := by decide +kernel
theorem dX4_first_1 : decode cX4_first 1 = .ok (.iload_n 1, 1) := by decide +kernel
theorem dX4_first_2 : decode cX4_first 2 = .ok (.invokevirtual 144, 3) := by decide +kernel
theorem dX4_first_5 : decode cX4_first 5 = .ok (.ifCond .ne 5, 3) := by decide +kernel
theorem dX4_first_8 : decode cX4_first 8 = .ok (.iconst (-1), 1) := by decide +kernel
theorem dX4_first_9 : decode cX4_first 9 = .ok (.ireturn, 1) := by decide +kernel
theorem dX4_first_10 : decode cX4_first 10 = .ok (.aload_n 0, 1) := by decide +kernel
theorem dX4_first_11 : decode cX4_first 11 = .ok (.getfield 30, 3) := by decide +kernel
theorem dX4_first_14 : decode cX4_first 14 = .ok (.iload_n 1, 1) := by decide +kernel
theorem dX4_first_15 : decode cX4_first 15 = .ok (.aaload, 1) := by decide +kernel
theorem dX4_first_16 : decode cX4_first 16 = .ok (.getfield 66, 3) := by decide +kernel
theorem dX4_first_19 : decode cX4_first 19 = .ok (.ifCond .ne 6, 3) := by decide +kernel
theorem dX4_first_22 : decode cX4_first 22 = .ok (.bipush (-2), 2) := by decide +kernel
theorem dX4_first_24 : decode cX4_first 24 = .ok (.ireturn, 1) := by decide +kernel
theorem dX4_first_25 : decode cX4_first 25 = .ok (.aload_n 0, 1) := by decide +kernel
theorem dX4_first_26 : decode cX4_first 26 = .ok (.getfield 19, 3) := by decide +kernel
theorem dX4_first_29 : decode cX4_first 29 = .ok (.aload_n 0, 1) := by decide +kernel
theorem dX4_first_30 : decode cX4_first 30 = .ok (.getfield 37, 3) := by decide +kernel
theorem dX4_first_33 : decode cX4_first 33 = .ok (.aload_n 0, 1) := by decide +kernel
theorem dX4_first_34 : decode cX4_first 34 = .ok (.getfield 26, 3) := by decide +kernel
theorem dX4_first_37 : decode cX4_first 37 = .ok (.getfield 77, 3) := by decide +kernel
theorem dX4_first_40 : decode cX4_first 40 = .ok (.aload_n 0, 1) := by decide +kernel
theorem dX4_first_41 : decode cX4_first 41 = .ok (.getfield 30, 3) := by decide +kernel
theorem dX4_first_44 : decode cX4_first 44 = .ok (.iload_n 1, 1) := by decide +kernel
theorem dX4_first_45 : decode cX4_first 45 = .ok (.aaload, 1) := by decide +kernel
theorem dX4_first_46 : decode cX4_first 46 = .ok (.getfield 77, 3) := by decide +kernel
theorem dX4_first_49 : decode cX4_first 49 = .ok (.invokevirtual 151, 3) := by decide +kernel
theorem dX4_first_52 : decode cX4_first 52 = .ok (.ireturn, 1) := by decide +kernel
set_option maxRecDepth 20000 in
theorem ggX4_nights_X4_isImage : GoodIn wsX4_nights wsX4_isImage := goodIn_r _ [9, 1, 91, 92, 93, 94, 95, 96, 97] (by decide +kernel) (by decide +kernel)
set_option maxRecDepth 20000 in
theorem gX4_nights_X4_isImage : GoodIn wsX4_nights (wsV RX4 144 RX4 yX4_isImage wsX4_isImage) := goodIn_app (goodIn_of _ (by decide +kernel)) ggX4_nights_X4_isImage
set_option maxRecDepth 20000 in
theorem ggX4_nights_X2_fewestNights : GoodIn wsX4_nights wsX2_fewestNights := goodIn_r _ [13, 14, 15, 16, 17, 11, 18, 19, 20, 21, 8, 22, 23, 24, 25, 26, 27, 28, 29, 30, 31, 32, 33, 34, 35, 36, 37, 38, 39, 40, 41, 42, 43, 44, 45, 46, 47, 48, 49, 50, 51, 52, 53, 54, 55, 56, 57, 58, 59, 60, 61, 62, 63, 64, 65, 66, 67, 68, 69, 70, 71, 72, 73, 74, 75, 76, 77, 78, 79, 80, 81, 82, 83, 84, 85, 86, 87, 88, 89, 90, 106, 107, 108, 109, 110, 98, 99, 100, 101, 102, 103, 104, 105, 111, 112, 113, 114, 115, 116, 117, 118, 119, 120, 121] (by decide +kernel) (by decide +kernel)
set_option maxRecDepth 20000 in
theorem gX4_nights_X2_fewestNights_n154 : GoodIn wsX4_nights (wsX2_fewestNights) := ggX4_nights_X2_fewestNights
theorem dX4_nights_0 : decode cX4_nights 0 = .ok (.aload_n 0, 1) := by decide +kernel
theorem dX4_nights_1 : decode cX4_nights 1 = .ok (.iload_n 1, 1) := by decide +kernel
theorem dX4_nights_2 : decode cX4_nights 2 = .ok (.invokevirtual 144, 3) := by decide +kernel
theorem dX4_nights_5 : decode cX4_nights 5 = .ok (.ifCond .ne 5, 3) := by decide +kernel
theorem dX4_nights_8 : decode cX4_nights 8 = .ok (.iconst (-1), 1) := by decide +kernel
theorem dX4_nights_9 : decode cX4_nights 9 = .ok (.ireturn, 1) := by decide +kernel
theorem dX4_nights_10 : decode cX4_nights 10 = .ok (.aload_n 0, 1) := by decide +kernel
theorem dX4_nights_11 : decode cX4_nights 11 = .ok (.getfield 30, 3) := by decide +kernel
theorem dX4_nights_14 : decode cX4_nights 14 = .ok (.iload_n 1, 1) := by decide +kernel
theorem dX4_nights_15 : decode cX4_nights 15 = .ok (.aaload, 1) := by decide +kernel
theorem dX4_nights_16 : decode cX4_nights 16 = .ok (.getfield 66, 3) := by decide +kernel
theorem dX4_nights_19 : decode cX4_nights 19 = .ok (.ifCond .ne 6, 3) := by decide +kernel
theorem dX4_nights_22 : decode cX4_nights 22 = .ok (.bipush (-2), 2) := by decide +kernel
theorem dX4_nights_24 : decode cX4_nights 24 = .ok (.ireturn, 1) := by decide +kernel
theorem dX4_nights_25 : decode cX4_nights 25 = .ok (.aload_n 0, 1) := by decide +kernel
theorem dX4_nights_26 : decode cX4_nights 26 = .ok (.getfield 19, 3) := by decide +kernel
theorem dX4_nights_29 : decode cX4_nights 29 = .ok (.aload_n 0, 1) := by decide +kernel
theorem dX4_nights_30 : decode cX4_nights 30 = .ok (.getfield 37, 3) := by decide +kernel
theorem dX4_nights_33 : decode cX4_nights 33 = .ok (.aload_n 0, 1) := by decide +kernel
theorem dX4_nights_34 : decode cX4_nights 34 = .ok (.getfield 26, 3) := by decide +kernel
theorem dX4_nights_37 : decode cX4_nights 37 = .ok (.aload_n 0, 1) := by decide +kernel
theorem dX4_nights_38 : decode cX4_nights 38 = .ok (.getfield 30, 3) := by decide +kernel
theorem dX4_nights_41 : decode cX4_nights 41 = .ok (.iload_n 1, 1) := by decide +kernel
theorem dX4_nights_42 : decode cX4_nights 42 = .ok (.aaload, 1) := by decide +kernel
theorem dX4_nights_43 : decode cX4_nights 43 = .ok (.getfield 77, 3) := by decide +kernel
theorem dX4_nights_46 : decode cX4_nights 46 = .ok (.invokevirtual 154, 3) := by decide +kernel
theorem dX4_nights_49 : decode cX4_nights 49 = .ok (.ireturn, 1) := by decide +kernel
set_option maxRecDepth 20000 in
theorem ggX4_piano_X4_isSlot : GoodIn wsX4_piano wsX4_isSlot := goodIn_r _ [7] (by decide +kernel) (by decide +kernel)
set_option maxRecDepth 20000 in
theorem gX4_piano_X4_isSlot : GoodIn wsX4_piano (va_wsS RX4 84 yX4_isSlot wsX4_isSlot) := goodIn_app (goodIn_of _ (by decide +kernel)) ggX4_piano_X4_isSlot
set_option maxRecDepth 20000 in
theorem ggX4_piano_X2_actsToEmpty : GoodIn wsX4_piano wsX2_actsToEmpty := goodIn_r _ [11, 12, 13, 14, 15, 16, 9, 17, 18, 19, 20, 6, 21, 22, 23, 24, 25, 26, 27, 28, 29, 30, 31, 32, 33, 34, 35, 36, 37, 38, 39, 40, 41, 42, 43, 44, 45, 46, 47, 48, 49, 50, 51, 52, 53, 54, 55, 56, 57, 58, 59, 60, 61, 62, 63, 64, 65, 66, 67, 68, 69, 70, 71, 72, 73, 74, 75, 76, 77, 78, 79, 80, 81, 82, 83, 84, 100, 101, 102, 103, 104, 105, 106, 107, 108, 109, 110, 111, 112, 113, 114, 115] (by decide +kernel) (by decide +kernel)
set_option maxRecDepth 20000 in
theorem gX4_piano_X2_actsToEmpty_n158 : GoodIn wsX4_piano (wsX2_actsToEmpty) := ggX4_piano_X2_actsToEmpty
theorem dX4_piano_0 : decode cX4_piano 0 = .ok (.iload_n 1, 1) := by decide +kernel
theorem dX4_piano_1 : decode cX4_piano 1 = .ok (.invokestatic 84, 3) := by decide +kernel
theorem dX4_piano_4 : decode cX4_piano 4 = .ok (.ifCond .ne 5, 3) := by decide +kernel
theorem dX4_piano_7 : decode cX4_piano 7 = .ok (.iconst (-1), 1) := by decide +kernel
theorem dX4_piano_8 : decode cX4_piano 8 = .ok (.ireturn, 1) := by decide +kernel
theorem dX4_piano_9 : decode cX4_piano 9 = .ok (.aload_n 0, 1) := by decide +kernel
theorem dX4_piano_10 : decode cX4_piano 10 = .ok (.getfield 19, 3) := by decide +kernel
theorem dX4_piano_13 : decode cX4_piano 13 = .ok (.aload_n 0, 1) := by decide +kernel
theorem dX4_piano_14 : decode cX4_piano 14 = .ok (.getfield 37, 3) := by decide +kernel
theorem dX4_piano_17 : decode cX4_piano 17 = .ok (.aload_n 0, 1) := by decide +kernel
theorem dX4_piano_18 : decode cX4_piano 18 = .ok (.getfield 26, 3) := by decide +kernel
theorem dX4_piano_21 : decode cX4_piano 21 = .ok (.getfield 77, 3) := by decide +kernel
theorem dX4_piano_24 : decode cX4_piano 24 = .ok (.iconst 1, 1) := by decide +kernel
theorem dX4_piano_25 : decode cX4_piano 25 = .ok (.iload_n 1, 1) := by decide +kernel
theorem dX4_piano_26 : decode cX4_piano 26 = .ok (.ishl, 1) := by decide +kernel
theorem dX4_piano_27 : decode cX4_piano 27 = .ok (.iconst 1, 1) := by decide +kernel
theorem dX4_piano_28 : decode cX4_piano 28 = .ok (.iload_n 1, 1) := by decide +kernel
theorem dX4_piano_29 : decode cX4_piano 29 = .ok (.iconst 1, 1) := by decide +kernel
theorem dX4_piano_30 : decode cX4_piano 30 = .ok (.iadd, 1) := by decide +kernel
theorem dX4_piano_31 : decode cX4_piano 31 = .ok (.bipush 8, 2) := by decide +kernel
theorem dX4_piano_33 : decode cX4_piano 33 = .ok (.irem, 1) := by decide +kernel
theorem dX4_piano_34 : decode cX4_piano 34 = .ok (.ishl, 1) := by decide +kernel
theorem dX4_piano_35 : decode cX4_piano 35 = .ok (.ior, 1) := by decide +kernel
theorem dX4_piano_36 : decode cX4_piano 36 = .ok (.invokevirtual 158, 3) := by decide +kernel
theorem dX4_piano_39 : decode cX4_piano 39 = .ok (.ireturn, 1) := by decide +kernel
set_option maxRecDepth 20000 in
theorem ggX4_best_X1_hasPanel : GoodIn wsX4_best wsX1_hasPanel := goodIn_r _ [7, 8, 9, 86, 87, 88, 89, 90, 91, 92, 93, 94, 95, 96] (by decide +kernel) (by decide +kernel)
set_option maxRecDepth 20000 in
theorem gX4_best_X1_hasPanel_n69 : GoodIn wsX4_best (wsX1_hasPanel) := ggX4_best_X1_hasPanel
set_option maxRecDepth 20000 in
theorem ggX4_best_X2_bestHome : GoodIn wsX4_best wsX2_bestHome := goodIn_r _ [13, 14, 15, 16, 17, 11, 18, 19, 20, 21, 22, 23, 24, 5, 25, 26, 27, 8, 28, 29, 30, 31, 32, 33, 34, 35, 36, 37, 38, 9, 39, 40, 41, 42, 43, 44, 45, 46, 47, 48, 49, 50, 51, 52, 53, 54, 55, 56, 57, 58, 59, 60, 61, 62, 63, 64, 65, 66, 67, 68, 69, 70, 71, 72, 73, 74, 75, 76, 77, 97, 98, 99, 100, 101, 86, 87, 88, 89, 90, 91, 92, 93, 94, 95, 96] (by decide +kernel) (by decide +kernel)
set_option maxRecDepth 20000 in
theorem gX4_best_X2_bestHome_n161 : GoodIn wsX4_best (wsX2_bestHome) := ggX4_best_X2_bestHome
set_option maxRecDepth 20000 in
theorem ggX4_best_X1_worthOf : GoodIn wsX4_best wsX1_worthOf := goodIn_r _ [61, 62, 63, 64, 65, 66, 5, 67, 68, 35, 36, 37, 38, 8, 9, 33, 22, 34, 39, 40, 41, 42, 43, 44, 45, 69, 70, 71, 72, 73, 74, 75, 76, 77, 86, 87, 88, 89, 90, 91, 92, 93, 94, 95, 96] (by decide +kernel) (by decide +kernel)
set_option maxRecDepth 20000 in
theorem gX4_best_X1_worthOf_n134 : GoodIn wsX4_best (wsX1_worthOf) := ggX4_best_X1_worthOf
set_option maxRecDepth 20000 in
theorem ggX4_best_X4_placeIn : GoodIn wsX4_best wsX4_placeIn := goodIn_r _ [34] (by decide +kernel) (by decide +kernel)
set_option maxRecDepth 20000 in
theorem gX4_best_X4_placeIn : GoodIn wsX4_best (va_wsS RX4 80 yX4_placeIn wsX4_placeIn) := goodIn_app (goodIn_of _ (by decide +kernel)) ggX4_best_X4_placeIn
theorem dX4_best_0 : decode cX4_best 0 = .ok (.iload_n 1, 1) := by decide +kernel
theorem dX4_best_1 : decode cX4_best 1 = .ok (.iconst (-1), 1) := by decide +kernel
theorem dX4_best_2 : decode cX4_best 2 = .ok (.if_icmp .eq 17, 3) := by decide +kernel
theorem dX4_best_5 : decode cX4_best 5 = .ok (.aload_n 0, 1) := by decide +kernel
theorem dX4_best_6 : decode cX4_best 6 = .ok (.getfield 37, 3) := by decide +kernel
theorem dX4_best_9 : decode cX4_best 9 = .ok (.iload_n 1, 1) := by decide +kernel
theorem dX4_best_10 : decode cX4_best 10 = .ok (.invokevirtual 69, 3) := by decide +kernel
theorem dX4_best_13 : decode cX4_best 13 = .ok (.ifCond .ne 6, 3) := by decide +kernel
theorem dX4_best_16 : decode cX4_best 16 = .ok (.ldc 140, 2) := by decide +kernel
theorem dX4_best_18 : decode cX4_best 18 = .ok (.ireturn, 1) := by decide +kernel
theorem dX4_best_19 : decode cX4_best 19 = .ok (.aload_n 0, 1) := by decide +kernel
theorem dX4_best_20 : decode cX4_best 20 = .ok (.getfield 19, 3) := by decide +kernel
theorem dX4_best_23 : decode cX4_best 23 = .ok (.aload_n 0, 1) := by decide +kernel
theorem dX4_best_24 : decode cX4_best 24 = .ok (.getfield 37, 3) := by decide +kernel
theorem dX4_best_27 : decode cX4_best 27 = .ok (.invokevirtual 161, 3) := by decide +kernel
theorem dX4_best_30 : decode cX4_best 30 = .ok (.istore_n 2, 1) := by decide +kernel
theorem dX4_best_31 : decode cX4_best 31 = .ok (.iload_n 2, 1) := by decide +kernel
theorem dX4_best_32 : decode cX4_best 32 = .ok (.bipush (-9), 2) := by decide +kernel
theorem dX4_best_34 : decode cX4_best 34 = .ok (.if_icmp .ne 6, 3) := by decide +kernel
theorem dX4_best_37 : decode cX4_best 37 = .ok (.ldc 140, 2) := by decide +kernel
theorem dX4_best_39 : decode cX4_best 39 = .ok (.ireturn, 1) := by decide +kernel
theorem dX4_best_40 : decode cX4_best 40 = .ok (.iload_n 1, 1) := by decide +kernel
theorem dX4_best_41 : decode cX4_best 41 = .ok (.iconst (-1), 1) := by decide +kernel
theorem dX4_best_42 : decode cX4_best 42 = .ok (.if_icmp .ne 14, 3) := by decide +kernel
theorem dX4_best_45 : decode cX4_best 45 = .ok (.aload_n 0, 1) := by decide +kernel
theorem dX4_best_46 : decode cX4_best 46 = .ok (.getfield 37, 3) := by decide +kernel
theorem dX4_best_49 : decode cX4_best 49 = .ok (.iload_n 2, 1) := by decide +kernel
theorem dX4_best_50 : decode cX4_best 50 = .ok (.invokevirtual 134, 3) := by decide +kernel
theorem dX4_best_53 : decode cX4_best 53 = .ok (.goto 8, 3) := by decide +kernel
theorem dX4_best_56 : decode cX4_best 56 = .ok (.iload_n 2, 1) := by decide +kernel
theorem dX4_best_57 : decode cX4_best 57 = .ok (.iload_n 1, 1) := by decide +kernel
theorem dX4_best_58 : decode cX4_best 58 = .ok (.invokestatic 80, 3) := by decide +kernel
theorem dX4_best_61 : decode cX4_best 61 = .ok (.ireturn, 1) := by decide +kernel
set_option maxRecDepth 20000 in
theorem ggX4_clue_X4_isSlot : GoodIn wsX4_clue wsX4_isSlot := goodIn_r _ [5] (by decide +kernel) (by decide +kernel)
set_option maxRecDepth 20000 in
theorem gX4_clue_X4_isSlot : GoodIn wsX4_clue (va_wsS RX4 84 yX4_isSlot wsX4_isSlot) := goodIn_app (goodIn_of _ (by decide +kernel)) ggX4_clue_X4_isSlot
theorem dX4_clue_0 : decode cX4_clue 0 = .ok (.iload_n 1, 1) := by decide +kernel
theorem dX4_clue_1 : decode cX4_clue 1 = .ok (.invokestatic 84, 3) := by decide +kernel
theorem dX4_clue_4 : decode cX4_clue 4 = .ok (.ifCond .eq 12, 3) := by decide +kernel
theorem dX4_clue_7 : decode cX4_clue 7 = .ok (.iload_n 2, 1) := by decide +kernel
theorem dX4_clue_8 : decode cX4_clue 8 = .ok (.ifCond .lt 8, 3) := by decide +kernel
theorem dX4_clue_11 : decode cX4_clue 11 = .ok (.iload_n 2, 1) := by decide +kernel
theorem dX4_clue_12 : decode cX4_clue 12 = .ok (.iconst 1, 1) := by decide +kernel
theorem dX4_clue_13 : decode cX4_clue 13 = .ok (.if_icmp .le 5, 3) := by decide +kernel
theorem dX4_clue_16 : decode cX4_clue 16 = .ok (.iconst (-1), 1) := by decide +kernel
theorem dX4_clue_17 : decode cX4_clue 17 = .ok (.ireturn, 1) := by decide +kernel
theorem dX4_clue_18 : decode cX4_clue 18 = .ok (.aload_n 0, 1) := by decide +kernel
theorem dX4_clue_19 : decode cX4_clue 19 = .ok (.getfield 26, 3) := by decide +kernel
theorem dX4_clue_22 : decode cX4_clue 22 = .ok (.getfield 164, 3) := by decide +kernel
theorem dX4_clue_25 : decode cX4_clue 25 = .ok (.bipush 8, 2) := by decide +kernel
theorem dX4_clue_27 : decode cX4_clue 27 = .ok (.if_icmp .lt 6, 3) := by decide +kernel
theorem dX4_clue_30 : decode cX4_clue 30 = .ok (.bipush (-3), 2) := by decide +kernel
theorem dX4_clue_32 : decode cX4_clue 32 = .ok (.ireturn, 1) := by decide +kernel
theorem dX4_clue_33 : decode cX4_clue 33 = .ok (.aload_n 0, 1) := by decide +kernel
theorem dX4_clue_34 : decode cX4_clue 34 = .ok (.getfield 26, 3) := by decide +kernel
theorem dX4_clue_37 : decode cX4_clue 37 = .ok (.dup, 1) := by decide +kernel
theorem dX4_clue_38 : decode cX4_clue 38 = .ok (.getfield 164, 3) := by decide +kernel
theorem dX4_clue_41 : decode cX4_clue 41 = .ok (.iconst 1, 1) := by decide +kernel
theorem dX4_clue_42 : decode cX4_clue 42 = .ok (.iadd, 1) := by decide +kernel
theorem dX4_clue_43 : decode cX4_clue 43 = .ok (.putfield 164, 3) := by decide +kernel
theorem dX4_clue_46 : decode cX4_clue 46 = .ok (.iload_n 2, 1) := by decide +kernel
theorem dX4_clue_47 : decode cX4_clue 47 = .ok (.iconst 1, 1) := by decide +kernel
theorem dX4_clue_48 : decode cX4_clue 48 = .ok (.if_icmp .ne 21, 3) := by decide +kernel
theorem dX4_clue_51 : decode cX4_clue 51 = .ok (.aload_n 0, 1) := by decide +kernel
theorem dX4_clue_52 : decode cX4_clue 52 = .ok (.getfield 26, 3) := by decide +kernel
theorem dX4_clue_55 : decode cX4_clue 55 = .ok (.dup, 1) := by decide +kernel
theorem dX4_clue_56 : decode cX4_clue 56 = .ok (.getfield 167, 3) := by decide +kernel
theorem dX4_clue_59 : decode cX4_clue 59 = .ok (.iconst 1, 1) := by decide +kernel
theorem dX4_clue_60 : decode cX4_clue 60 = .ok (.iload_n 1, 1) := by decide +kernel
theorem dX4_clue_61 : decode cX4_clue 61 = .ok (.ishl, 1) := by decide +kernel
theorem dX4_clue_62 : decode cX4_clue 62 = .ok (.ior, 1) := by decide +kernel
theorem dX4_clue_63 : decode cX4_clue 63 = .ok (.putfield 167, 3) := by decide +kernel
theorem dX4_clue_66 : decode cX4_clue 66 = .ok (.goto 18, 3) := by decide +kernel
theorem dX4_clue_69 : decode cX4_clue 69 = .ok (.aload_n 0, 1) := by decide +kernel
theorem dX4_clue_70 : decode cX4_clue 70 = .ok (.getfield 26, 3) := by decide +kernel
theorem dX4_clue_73 : decode cX4_clue 73 = .ok (.dup, 1) := by decide +kernel
theorem dX4_clue_74 : decode cX4_clue 74 = .ok (.getfield 169, 3) := by decide +kernel
theorem dX4_clue_77 : decode cX4_clue 77 = .ok (.iconst 1, 1) := by decide +kernel
theorem dX4_clue_78 : decode cX4_clue 78 = .ok (.iload_n 1, 1) := by decide +kernel
theorem dX4_clue_79 : decode cX4_clue 79 = .ok (.ishl, 1) := by decide +kernel
theorem dX4_clue_80 : decode cX4_clue 80 = .ok (.ior, 1) := by decide +kernel
theorem dX4_clue_81 : decode cX4_clue 81 = .ok (.putfield 169, 3) := by decide +kernel
theorem dX4_clue_84 : decode cX4_clue 84 = .ok (.aload_n 0, 1) := by decide +kernel
theorem dX4_clue_85 : decode cX4_clue 85 = .ok (.getfield 26, 3) := by decide +kernel
theorem dX4_clue_88 : decode cX4_clue 88 = .ok (.getfield 164, 3) := by decide +kernel
theorem dX4_clue_91 : decode cX4_clue 91 = .ok (.ireturn, 1) := by decide +kernel
set_option maxRecDepth 20000 in
theorem ggX4_fit_X2_countFitting : GoodIn wsX4_fit wsX2_countFitting := goodIn_r _ [7, 8, 9, 10, 5, 11, 12, 13, 14, 15, 16, 17, 18, 19, 20, 21, 22, 23, 24, 25, 26, 27, 28, 29, 30, 31, 32, 33, 34, 35, 36, 37, 38, 39, 40, 41, 42, 43, 44, 45, 46, 47, 48, 49, 50, 51, 52, 53, 54, 55, 56, 57, 58, 59, 60, 61, 62, 70, 71, 72, 73, 74, 75, 76, 77, 78, 79, 80, 81, 82, 83, 84, 85, 86, 87, 88, 89, 90, 91, 92, 93] (by decide +kernel) (by decide +kernel)
set_option maxRecDepth 20000 in
theorem gX4_fit_X2_countFitting_n172 : GoodIn wsX4_fit (wsX2_countFitting) := ggX4_fit_X2_countFitting
theorem dX4_fit_0 : decode cX4_fit 0 = .ok (.aload_n 0, 1) := by decide +kernel
theorem dX4_fit_1 : decode cX4_fit 1 = .ok (.getfield 19, 3) := by decide +kernel
theorem dX4_fit_4 : decode cX4_fit 4 = .ok (.aload_n 0, 1) := by decide +kernel
theorem dX4_fit_5 : decode cX4_fit 5 = .ok (.getfield 37, 3) := by decide +kernel
theorem dX4_fit_8 : decode cX4_fit 8 = .ok (.aload_n 0, 1) := by decide +kernel
theorem dX4_fit_9 : decode cX4_fit 9 = .ok (.getfield 26, 3) := by decide +kernel
theorem dX4_fit_12 : decode cX4_fit 12 = .ok (.invokevirtual 172, 3) := by decide +kernel
theorem dX4_fit_15 : decode cX4_fit 15 = .ok (.ireturn, 1) := by decide +kernel
set_option maxRecDepth 20000 in
theorem ggX4_sure_X1_hasPanel : GoodIn wsX4_sure wsX1_hasPanel := goodIn_r _ [7, 8, 9, 73, 74, 75, 76, 77, 78, 79, 80, 81, 82, 83] (by decide +kernel) (by decide +kernel)
set_option maxRecDepth 20000 in
theorem gX4_sure_X1_hasPanel_n69 : GoodIn wsX4_sure (wsX1_hasPanel) := ggX4_sure_X1_hasPanel
set_option maxRecDepth 20000 in
theorem ggX4_sure_X2_surePlace : GoodIn wsX4_sure wsX2_surePlace := goodIn_r _ [13, 14, 15, 16, 11, 17, 18, 19, 20, 21, 22, 23, 5, 24, 25, 26, 8, 27, 28, 29, 30, 31, 32, 33, 34, 35, 36, 37, 9, 38, 39, 40, 41, 42, 43, 44, 45, 46, 47, 48, 49, 50, 51, 52, 53, 54, 55, 56, 57, 58, 59, 60, 61, 62, 63, 64, 65, 84, 85, 86, 87, 88, 73, 74, 75, 76, 77, 78, 79, 80, 81, 82, 83, 89, 90, 91, 92, 93, 94, 95, 96] (by decide +kernel) (by decide +kernel)
set_option maxRecDepth 20000 in
theorem gX4_sure_X2_surePlace_n176 : GoodIn wsX4_sure (wsX2_surePlace) := ggX4_sure_X2_surePlace
theorem dX4_sure_0 : decode cX4_sure 0 = .ok (.aload_n 0, 1) := by decide +kernel
theorem dX4_sure_1 : decode cX4_sure 1 = .ok (.getfield 37, 3) := by decide +kernel
theorem dX4_sure_4 : decode cX4_sure 4 = .ok (.iload_n 1, 1) := by decide +kernel
theorem dX4_sure_5 : decode cX4_sure 5 = .ok (.invokevirtual 69, 3) := by decide +kernel
theorem dX4_sure_8 : decode cX4_sure 8 = .ok (.ifCond .ne 5, 3) := by decide +kernel
theorem dX4_sure_11 : decode cX4_sure 11 = .ok (.iconst (-1), 1) := by decide +kernel
theorem dX4_sure_12 : decode cX4_sure 12 = .ok (.ireturn, 1) := by decide +kernel
theorem dX4_sure_13 : decode cX4_sure 13 = .ok (.aload_n 0, 1) := by decide +kernel
theorem dX4_sure_14 : decode cX4_sure 14 = .ok (.getfield 19, 3) := by decide +kernel
theorem dX4_sure_17 : decode cX4_sure 17 = .ok (.aload_n 0, 1) := by decide +kernel
theorem dX4_sure_18 : decode cX4_sure 18 = .ok (.getfield 37, 3) := by decide +kernel
theorem dX4_sure_21 : decode cX4_sure 21 = .ok (.aload_n 0, 1) := by decide +kernel
theorem dX4_sure_22 : decode cX4_sure 22 = .ok (.getfield 26, 3) := by decide +kernel
theorem dX4_sure_25 : decode cX4_sure 25 = .ok (.iload_n 1, 1) := by decide +kernel
theorem dX4_sure_26 : decode cX4_sure 26 = .ok (.invokevirtual 176, 3) := by decide +kernel
theorem dX4_sure_29 : decode cX4_sure 29 = .ok (.ireturn, 1) := by decide +kernel
theorem dX4_forget_0 : decode cX4_forget 0 = .ok (.aload_n 0, 1) := by decide +kernel
theorem dX4_forget_1 : decode cX4_forget 1 = .ok (.getfield 26, 3) := by decide +kernel
theorem dX4_forget_4 : decode cX4_forget 4 = .ok (.getfield 164, 3) := by decide +kernel
theorem dX4_forget_7 : decode cX4_forget 7 = .ok (.istore_n 1, 1) := by decide +kernel
theorem dX4_forget_8 : decode cX4_forget 8 = .ok (.aload_n 0, 1) := by decide +kernel
theorem dX4_forget_9 : decode cX4_forget 9 = .ok (.getfield 26, 3) := by decide +kernel
theorem dX4_forget_12 : decode cX4_forget 12 = .ok (.iconst 0, 1) := by decide +kernel
theorem dX4_forget_13 : decode cX4_forget 13 = .ok (.putfield 164, 3) := by decide +kernel
theorem dX4_forget_16 : decode cX4_forget 16 = .ok (.aload_n 0, 1) := by decide +kernel
theorem dX4_forget_17 : decode cX4_forget 17 = .ok (.getfield 26, 3) := by decide +kernel
theorem dX4_forget_20 : decode cX4_forget 20 = .ok (.iconst 0, 1) := by decide +kernel
theorem dX4_forget_21 : decode cX4_forget 21 = .ok (.putfield 167, 3) := by decide +kernel
theorem dX4_forget_24 : decode cX4_forget 24 = .ok (.aload_n 0, 1) := by decide +kernel
theorem dX4_forget_25 : decode cX4_forget 25 = .ok (.getfield 26, 3) := by decide +kernel
theorem dX4_forget_28 : decode cX4_forget 28 = .ok (.iconst 0, 1) := by decide +kernel
theorem dX4_forget_29 : decode cX4_forget 29 = .ok (.putfield 169, 3) := by decide +kernel
theorem dX4_forget_32 : decode cX4_forget 32 = .ok (.iload_n 1, 1) := by decide +kernel
theorem dX4_forget_33 : decode cX4_forget 33 = .ok (.ireturn, 1) := by decide +kernel
set_option maxRecDepth 20000 in
theorem ggX4_mark_X1_hasPanel : GoodIn wsX4_mark wsX1_hasPanel := goodIn_r _ [6, 7, 8, 58, 59, 60, 61, 62, 63, 64, 65, 66, 67, 68] (by decide +kernel) (by decide +kernel)
set_option maxRecDepth 20000 in
theorem gX4_mark_X1_hasPanel_n69 : GoodIn wsX4_mark (wsX1_hasPanel) := ggX4_mark_X1_hasPanel
set_option maxRecDepth 20000 in
theorem ggX4_mark_X4_markOfPanel : GoodIn wsX4_mark wsX4_markOfPanel := goodIn_r _ [13, 14, 15, 16, 17, 12, 18, 51, 52, 53, 54, 55, 56, 57, 69, 70, 71, 72, 73, 74, 75, 76] (by decide +kernel) (by decide +kernel)
set_option maxRecDepth 20000 in
theorem gX4_mark_X4_markOfPanel : GoodIn wsX4_mark (wsV RX4 179 RX4 yX4_markOfPanel wsX4_markOfPanel) := goodIn_app (goodIn_of _ (by decide +kernel)) ggX4_mark_X4_markOfPanel
set_option maxRecDepth 20000 in
theorem ggX4_mark_X4_markOfBearing : GoodIn wsX4_mark wsX4_markOfBearing := goodIn_r _ [22, 14, 23, 9, 10, 11, 12, 13, 15, 16, 17, 18, 51, 52, 53, 54, 55, 56, 57, 69, 70, 71, 72, 73, 74, 75, 76] (by decide +kernel) (by decide +kernel)
set_option maxRecDepth 20000 in
theorem gX4_mark_X4_markOfBearing : GoodIn wsX4_mark (wsV RX4 182 RX4 yX4_markOfBearing wsX4_markOfBearing) := goodIn_app (goodIn_of _ (by decide +kernel)) ggX4_mark_X4_markOfBearing
set_option maxRecDepth 20000 in
theorem ggX4_mark_X4_markOfLight : GoodIn wsX4_mark wsX4_markOfLight := goodIn_r _ [27, 14, 28, 1, 9, 10, 11, 12, 13, 15, 16, 17, 18, 29, 4, 30, 31, 8, 32, 3, 5, 6, 7, 51, 52, 53, 54, 55, 56, 57, 69, 70, 71, 72, 73, 74, 75, 76, 58, 59, 60, 61, 62, 63, 64, 65, 66, 67, 68] (by decide +kernel) (by decide +kernel)
set_option maxRecDepth 20000 in
theorem gX4_mark_X4_markOfLight : GoodIn wsX4_mark (wsV RX4 185 RX4 yX4_markOfLight wsX4_markOfLight) := goodIn_app (goodIn_of _ (by decide +kernel)) ggX4_mark_X4_markOfLight
set_option maxRecDepth 20000 in
theorem ggX4_mark_X4_markOfOld : GoodIn wsX4_mark wsX4_markOfOld := goodIn_r _ [36, 14, 37, 15, 19, 20, 21, 12, 22, 23, 9, 10, 11, 13, 16, 17, 18, 51, 52, 53, 54, 55, 56, 57, 69, 70, 71, 72, 73, 74, 75, 76] (by decide +kernel) (by decide +kernel)
set_option maxRecDepth 20000 in
theorem gX4_mark_X4_markOfOld : GoodIn wsX4_mark (wsV RX4 188 RX4 yX4_markOfOld wsX4_markOfOld) := goodIn_app (goodIn_of _ (by decide +kernel)) ggX4_mark_X4_markOfOld
set_option maxRecDepth 20000 in
theorem ggX4_mark_X4_markOfClear : GoodIn wsX4_mark wsX4_markOfClear := goodIn_r _ [41, 14, 42, 1, 15, 24, 25, 26, 12, 27, 28, 9, 10, 11, 13, 16, 17, 18, 29, 4, 30, 31, 8, 32, 3, 5, 6, 7, 43, 44, 45, 51, 52, 53, 54, 55, 56, 57, 69, 70, 71, 72, 73, 74, 75, 76, 58, 59, 60, 61, 62, 63, 64, 65, 66, 67, 68] (by decide +kernel) (by decide +kernel)
set_option maxRecDepth 20000 in
theorem gX4_mark_X4_markOfClear : GoodIn wsX4_mark (wsV RX4 191 RX4 yX4_markOfClear wsX4_markOfClear) := goodIn_app (goodIn_of _ (by decide +kernel)) ggX4_mark_X4_markOfClear
set_option maxRecDepth 20000 in
theorem ggX4_mark_X4_markOfNeighbours : GoodIn wsX4_mark wsX4_markOfNeighbours := goodIn_r _ [49, 14, 50, 9, 10, 11, 12, 13, 15, 16, 17, 18, 51, 52, 53, 54, 55, 56, 57, 69, 70, 71, 72, 73, 74, 75, 76] (by decide +kernel) (by decide +kernel)
set_option maxRecDepth 20000 in
theorem gX4_mark_X4_markOfNeighbours : GoodIn wsX4_mark (wsV RX4 194 RX4 yX4_markOfNeighbours wsX4_markOfNeighbours) := goodIn_app (goodIn_of _ (by decide +kernel)) ggX4_mark_X4_markOfNeighbours
theorem dX4_mark_0 : decode cX4_mark 0 = .ok (.aload_n 0, 1) := by decide +kernel
theorem dX4_mark_1 : decode cX4_mark 1 = .ok (.getfield 37, 3) := by decide +kernel
theorem dX4_mark_4 : decode cX4_mark 4 = .ok (.iload_n 2, 1) := by decide +kernel
theorem dX4_mark_5 : decode cX4_mark 5 = .ok (.invokevirtual 69, 3) := by decide +kernel
theorem dX4_mark_8 : decode cX4_mark 8 = .ok (.ifCond .ne 6, 3) := by decide +kernel
theorem dX4_mark_11 : decode cX4_mark 11 = .ok (.ldc 140, 2) := by decide +kernel
theorem dX4_mark_13 : decode cX4_mark 13 = .ok (.ireturn, 1) := by decide +kernel
theorem dX4_mark_14 : decode cX4_mark 14 = .ok (.iload_n 1, 1) := by decide +kernel
theorem dX4_mark_15 : decode cX4_mark 15 = .ok (.tableswitch 73 0 5 #[37, 43, 49, 55, 61, 67], 37) := by decide +kernel
theorem dX4_mark_52 : decode cX4_mark 52 = .ok (.aload_n 0, 1) := by decide +kernel
theorem dX4_mark_53 : decode cX4_mark 53 = .ok (.iload_n 2, 1) := by decide +kernel
theorem dX4_mark_54 : decode cX4_mark 54 = .ok (.invokevirtual 179, 3) := by decide +kernel
theorem dX4_mark_57 : decode cX4_mark 57 = .ok (.ireturn, 1) := by decide +kernel
theorem dX4_mark_58 : decode cX4_mark 58 = .ok (.aload_n 0, 1) := by decide +kernel
theorem dX4_mark_59 : decode cX4_mark 59 = .ok (.iload_n 2, 1) := by decide +kernel
theorem dX4_mark_60 : decode cX4_mark 60 = .ok (.invokevirtual 182, 3) := by decide +kernel
theorem dX4_mark_63 : decode cX4_mark 63 = .ok (.ireturn, 1) := by decide +kernel
theorem dX4_mark_64 : decode cX4_mark 64 = .ok (.aload_n 0, 1) := by decide +kernel
theorem dX4_mark_65 : decode cX4_mark 65 = .ok (.iload_n 2, 1) := by decide +kernel
theorem dX4_mark_66 : decode cX4_mark 66 = .ok (.invokevirtual 185, 3) := by decide +kernel
theorem dX4_mark_69 : decode cX4_mark 69 = .ok (.ireturn, 1) := by decide +kernel
theorem dX4_mark_70 : decode cX4_mark 70 = .ok (.aload_n 0, 1) := by decide +kernel
theorem dX4_mark_71 : decode cX4_mark 71 = .ok (.iload_n 2, 1) := by decide +kernel
theorem dX4_mark_72 : decode cX4_mark 72 = .ok (.invokevirtual 188, 3) := by decide +kernel
theorem dX4_mark_75 : decode cX4_mark 75 = .ok (.ireturn, 1) := by decide +kernel
theorem dX4_mark_76 : decode cX4_mark 76 = .ok (.aload_n 0, 1) := by decide +kernel
theorem dX4_mark_77 : decode cX4_mark 77 = .ok (.iload_n 2, 1) := by decide +kernel
theorem dX4_mark_78 : decode cX4_mark 78 = .ok (.invokevirtual 191, 3) := by decide +kernel
theorem dX4_mark_81 : decode cX4_mark 81 = .ok (.ireturn, 1) := by decide +kernel
theorem dX4_mark_82 : decode cX4_mark 82 = .ok (.aload_n 0, 1) := by decide +kernel
theorem dX4_mark_83 : decode cX4_mark 83 = .ok (.iload_n 2, 1) := by decide +kernel
theorem dX4_mark_84 : decode cX4_mark 84 = .ok (.invokevirtual 194, 3) := by decide +kernel
theorem dX4_mark_87 : decode cX4_mark 87 = .ok (.ireturn, 1) := by decide +kernel
theorem dX4_mark_88 : decode cX4_mark 88 = .ok (.ldc 140, 2) := by decide +kernel
theorem dX4_mark_90 : decode cX4_mark 90 = .ok (.ireturn, 1) := by decide +kernel
set_option maxRecDepth 20000 in
theorem ggX4_keep_X4_isImage : GoodIn wsX4_keep wsX4_isImage := goodIn_r _ [7, 1, 19, 20, 21, 22, 23, 24, 25] (by decide +kernel) (by decide +kernel)
set_option maxRecDepth 20000 in
theorem gX4_keep_X4_isImage : GoodIn wsX4_keep (wsV RX4 144 RX4 yX4_isImage wsX4_isImage) := goodIn_app (goodIn_of _ (by decide +kernel)) ggX4_keep_X4_isImage
set_option maxRecDepth 20000 in
theorem ggX4_keep_X0_copyFrom : GoodIn wsX4_keep wsX0_copyFrom := goodIn_r _ [11, 12, 13, 14, 15, 16, 17, 18, 26, 27, 28, 29, 30, 31, 32, 33] (by decide +kernel) (by decide +kernel)
set_option maxRecDepth 20000 in
theorem gX4_keep_X0_copyFrom_n197 : GoodIn wsX4_keep (wsX0_copyFrom) := ggX4_keep_X0_copyFrom
theorem dX4_keep_0 : decode cX4_keep 0 = .ok (.aload_n 0, 1) := by decide +kernel
theorem dX4_keep_1 : decode cX4_keep 1 = .ok (.iload_n 1, 1) := by decide +kernel
theorem dX4_keep_2 : decode cX4_keep 2 = .ok (.invokevirtual 144, 3) := by decide +kernel
theorem dX4_keep_5 : decode cX4_keep 5 = .ok (.ifCond .ne 5, 3) := by decide +kernel
theorem dX4_keep_8 : decode cX4_keep 8 = .ok (.iconst (-1), 1) := by decide +kernel
theorem dX4_keep_9 : decode cX4_keep 9 = .ok (.ireturn, 1) := by decide +kernel
theorem dX4_keep_10 : decode cX4_keep 10 = .ok (.aload_n 0, 1) := by decide +kernel
theorem dX4_keep_11 : decode cX4_keep 11 = .ok (.getfield 30, 3) := by decide +kernel
theorem dX4_keep_14 : decode cX4_keep 14 = .ok (.iload_n 1, 1) := by decide +kernel
theorem dX4_keep_15 : decode cX4_keep 15 = .ok (.aaload, 1) := by decide +kernel
theorem dX4_keep_16 : decode cX4_keep 16 = .ok (.aload_n 0, 1) := by decide +kernel
theorem dX4_keep_17 : decode cX4_keep 17 = .ok (.getfield 26, 3) := by decide +kernel
theorem dX4_keep_20 : decode cX4_keep 20 = .ok (.invokevirtual 197, 3) := by decide +kernel
theorem dX4_keep_23 : decode cX4_keep 23 = .ok (.aload_n 0, 1) := by decide +kernel
theorem dX4_keep_24 : decode cX4_keep 24 = .ok (.getfield 30, 3) := by decide +kernel
theorem dX4_keep_27 : decode cX4_keep 27 = .ok (.iload_n 1, 1) := by decide +kernel
theorem dX4_keep_28 : decode cX4_keep 28 = .ok (.aaload, 1) := by decide +kernel
theorem dX4_keep_29 : decode cX4_keep 29 = .ok (.iconst 1, 1) := by decide +kernel
theorem dX4_keep_30 : decode cX4_keep 30 = .ok (.putfield 66, 3) := by decide +kernel
theorem dX4_keep_33 : decode cX4_keep 33 = .ok (.aload_n 0, 1) := by decide +kernel
theorem dX4_keep_34 : decode cX4_keep 34 = .ok (.getfield 26, 3) := by decide +kernel
theorem dX4_keep_37 : decode cX4_keep 37 = .ok (.getfield 122, 3) := by decide +kernel
theorem dX4_keep_40 : decode cX4_keep 40 = .ok (.ireturn, 1) := by decide +kernel
set_option maxRecDepth 20000 in
theorem ggX4_back_X4_isImage : GoodIn wsX4_back wsX4_isImage := goodIn_r _ [7, 1, 19, 20, 21, 22, 23, 24, 25] (by decide +kernel) (by decide +kernel)
set_option maxRecDepth 20000 in
theorem gX4_back_X4_isImage : GoodIn wsX4_back (wsV RX4 144 RX4 yX4_isImage wsX4_isImage) := goodIn_app (goodIn_of _ (by decide +kernel)) ggX4_back_X4_isImage
set_option maxRecDepth 20000 in
theorem ggX4_back_X0_copyFrom : GoodIn wsX4_back wsX0_copyFrom := goodIn_r _ [11, 12, 13, 14, 15, 16, 17, 18, 26, 27, 28, 29, 30, 31, 32, 33] (by decide +kernel) (by decide +kernel)
set_option maxRecDepth 20000 in
theorem gX4_back_X0_copyFrom_n197 : GoodIn wsX4_back (wsX0_copyFrom) := ggX4_back_X0_copyFrom
theorem dX4_back_0 : decode cX4_back 0 = .ok (.aload_n 0, 1) := by decide +kernel
theorem dX4_back_1 : decode cX4_back 1 = .ok (.iload_n 1, 1) := by decide +kernel
theorem dX4_back_2 : decode cX4_back 2 = .ok (.invokevirtual 144, 3) := by decide +kernel
theorem dX4_back_5 : decode cX4_back 5 = .ok (.ifCond .ne 5, 3) := by decide +kernel
theorem dX4_back_8 : decode cX4_back 8 = .ok (.iconst (-1), 1) := by decide +kernel
theorem dX4_back_9 : decode cX4_back 9 = .ok (.ireturn, 1) := by decide +kernel
theorem dX4_back_10 : decode cX4_back 10 = .ok (.aload_n 0, 1) := by decide +kernel
theorem dX4_back_11 : decode cX4_back 11 = .ok (.getfield 30, 3) := by decide +kernel
theorem dX4_back_14 : decode cX4_back 14 = .ok (.iload_n 1, 1) := by decide +kernel
theorem dX4_back_15 : decode cX4_back 15 = .ok (.aaload, 1) := by decide +kernel
theorem dX4_back_16 : decode cX4_back 16 = .ok (.getfield 66, 3) := by decide +kernel
theorem dX4_back_19 : decode cX4_back 19 = .ok (.ifCond .ne 6, 3) := by decide +kernel
theorem dX4_back_22 : decode cX4_back 22 = .ok (.bipush (-2), 2) := by decide +kernel
theorem dX4_back_24 : decode cX4_back 24 = .ok (.ireturn, 1) := by decide +kernel
theorem dX4_back_25 : decode cX4_back 25 = .ok (.aload_n 0, 1) := by decide +kernel
theorem dX4_back_26 : decode cX4_back 26 = .ok (.getfield 26, 3) := by decide +kernel
theorem dX4_back_29 : decode cX4_back 29 = .ok (.aload_n 0, 1) := by decide +kernel
theorem dX4_back_30 : decode cX4_back 30 = .ok (.getfield 30, 3) := by decide +kernel
theorem dX4_back_33 : decode cX4_back 33 = .ok (.iload_n 1, 1) := by decide +kernel
theorem dX4_back_34 : decode cX4_back 34 = .ok (.aaload, 1) := by decide +kernel
theorem dX4_back_35 : decode cX4_back 35 = .ok (.invokevirtual 197, 3) := by decide +kernel
theorem dX4_back_38 : decode cX4_back 38 = .ok (.aload_n 0, 1) := by decide +kernel
theorem dX4_back_39 : decode cX4_back 39 = .ok (.getfield 26, 3) := by decide +kernel
theorem dX4_back_42 : decode cX4_back 42 = .ok (.getfield 122, 3) := by decide +kernel
theorem dX4_back_45 : decode cX4_back 45 = .ok (.ireturn, 1) := by decide +kernel
set_option maxRecDepth 20000 in
theorem ggX4_count_X1_lyingIn : GoodIn wsX4_count wsX1_lyingIn := goodIn_r _ [7, 8, 9, 10, 11, 19, 20, 21, 22, 23, 24, 25, 26, 27, 28, 29] (by decide +kernel) (by decide +kernel)
set_option maxRecDepth 20000 in
theorem gX4_count_X1_lyingIn_n207 : GoodIn wsX4_count (wsX1_lyingIn) := ggX4_count_X1_lyingIn
theorem dX4_count_0 : decode cX4_count 0 = .ok (.iload_n 1, 1) := by decide +kernel
theorem dX4_count_1 : decode cX4_count 1 = .ok (.tableswitch 82 0 4 #[35, 43, 51, 66, 74], 35) := by decide +kernel
theorem dX4_count_36 : decode cX4_count 36 = .ok (.aload_n 0, 1) := by decide +kernel
theorem dX4_count_37 : decode cX4_count 37 = .ok (.getfield 37, 3) := by decide +kernel
theorem dX4_count_40 : decode cX4_count 40 = .ok (.getfield 201, 3) := by decide +kernel
theorem dX4_count_43 : decode cX4_count 43 = .ok (.ireturn, 1) := by decide +kernel
theorem dX4_count_44 : decode cX4_count 44 = .ok (.aload_n 0, 1) := by decide +kernel
theorem dX4_count_45 : decode cX4_count 45 = .ok (.getfield 37, 3) := by decide +kernel
theorem dX4_count_48 : decode cX4_count 48 = .ok (.getfield 204, 3) := by decide +kernel
theorem dX4_count_51 : decode cX4_count 51 = .ok (.ireturn, 1) := by decide +kernel
theorem dX4_count_52 : decode cX4_count 52 = .ok (.aload_n 0, 1) := by decide +kernel
theorem dX4_count_53 : decode cX4_count 53 = .ok (.getfield 37, 3) := by decide +kernel
theorem dX4_count_56 : decode cX4_count 56 = .ok (.aload_n 0, 1) := by decide +kernel
theorem dX4_count_57 : decode cX4_count 57 = .ok (.getfield 26, 3) := by decide +kernel
theorem dX4_count_60 : decode cX4_count 60 = .ok (.getfield 77, 3) := by decide +kernel
theorem dX4_count_63 : decode cX4_count 63 = .ok (.invokevirtual 207, 3) := by decide +kernel
theorem dX4_count_66 : decode cX4_count 66 = .ok (.ireturn, 1) := by decide +kernel
theorem dX4_count_67 : decode cX4_count 67 = .ok (.aload_n 0, 1) := by decide +kernel
theorem dX4_count_68 : decode cX4_count 68 = .ok (.getfield 26, 3) := by decide +kernel
theorem dX4_count_71 : decode cX4_count 71 = .ok (.getfield 164, 3) := by decide +kernel
theorem dX4_count_74 : decode cX4_count 74 = .ok (.ireturn, 1) := by decide +kernel
theorem dX4_count_75 : decode cX4_count 75 = .ok (.aload_n 0, 1) := by decide +kernel
theorem dX4_count_76 : decode cX4_count 76 = .ok (.getfield 12, 3) := by decide +kernel
theorem dX4_count_79 : decode cX4_count 79 = .ok (.getfield 44, 3) := by decide +kernel
theorem dX4_count_82 : decode cX4_count 82 = .ok (.ireturn, 1) := by decide +kernel
theorem dX4_count_83 : decode cX4_count 83 = .ok (.iconst (-1), 1) := by decide +kernel
theorem dX4_count_84 : decode cX4_count 84 = .ok (.ireturn, 1) := by decide +kernel
theorem dX4_trace_0 : decode cX4_trace 0 = .ok (.aload_n 0, 1) := by decide +kernel
theorem dX4_trace_1 : decode cX4_trace 1 = .ok (.getfield 210, 3) := by decide +kernel
theorem dX4_trace_4 : decode cX4_trace 4 = .ok (.lreturn, 1) := by decide +kernel
set_option maxRecDepth 20000 in
theorem ggX4_act_X4_moved : GoodIn wsX4_act wsX4_moved := goodIn_r _ [6, 7, 8, 5, 9, 10, 11, 12] (by decide +kernel) (by decide +kernel)
set_option maxRecDepth 20000 in
theorem gX4_act_X4_moved : GoodIn wsX4_act (va_wsS RX4 214 yX4_moved wsX4_moved) := goodIn_app (goodIn_of _ (by decide +kernel)) ggX4_act_X4_moved
set_option maxRecDepth 20000 in
theorem ggX4_act_X1_allows : GoodIn wsX4_act wsX1_allows := goodIn_r _ [16, 17, 18, 19, 20, 21, 22, 14, 23, 8, 5, 9, 24, 25, 26, 27, 28, 29, 30, 31, 32, 33, 34, 35, 36, 37, 38, 39, 40, 41, 42, 43, 44, 60, 61, 62, 63, 64, 65, 66, 67, 68, 69, 70] (by decide +kernel) (by decide +kernel)
set_option maxRecDepth 20000 in
theorem gX4_act_X1_allows_n137 : GoodIn wsX4_act (wsX1_allows) := ggX4_act_X1_allows
set_option maxRecDepth 20000 in
theorem ggX4_act_X1_lyingIn : GoodIn wsX4_act wsX1_lyingIn := goodIn_r _ [23, 18, 8, 5, 9, 60, 61, 62, 63, 64, 65, 66, 67, 68, 69, 70] (by decide +kernel) (by decide +kernel)
set_option maxRecDepth 20000 in
theorem gX4_act_X1_lyingIn_n207 : GoodIn wsX4_act (wsX1_lyingIn) := ggX4_act_X1_lyingIn
theorem dX4_act_0 : decode cX4_act 0 = .ok (.aload_n 0, 1) := by decide +kernel
theorem dX4_act_1 : decode cX4_act 1 = .ok (.getfield 26, 3) := by decide +kernel
theorem dX4_act_4 : decode cX4_act 4 = .ok (.getfield 77, 3) := by decide +kernel
theorem dX4_act_7 : decode cX4_act 7 = .ok (.iload_n 1, 1) := by decide +kernel
theorem dX4_act_8 : decode cX4_act 8 = .ok (.iload_n 2, 1) := by decide +kernel
theorem dX4_act_9 : decode cX4_act 9 = .ok (.invokestatic 214, 3) := by decide +kernel
theorem dX4_act_12 : decode cX4_act 12 = .ok (.istore_n 3, 1) := by decide +kernel
theorem dX4_act_13 : decode cX4_act 13 = .ok (.aload_n 0, 1) := by decide +kernel
theorem dX4_act_14 : decode cX4_act 14 = .ok (.getfield 26, 3) := by decide +kernel
theorem dX4_act_17 : decode cX4_act 17 = .ok (.getfield 131, 3) := by decide +kernel
theorem dX4_act_20 : decode cX4_act 20 = .ok (.aload_n 0, 1) := by decide +kernel
theorem dX4_act_21 : decode cX4_act 21 = .ok (.getfield 37, 3) := by decide +kernel
theorem dX4_act_24 : decode cX4_act 24 = .ok (.getfield 105, 3) := by decide +kernel
theorem dX4_act_27 : decode cX4_act 27 = .ok (.if_icmp .ge 14, 3) := by decide +kernel
theorem dX4_act_30 : decode cX4_act 30 = .ok (.aload_n 0, 1) := by decide +kernel
theorem dX4_act_31 : decode cX4_act 31 = .ok (.getfield 37, 3) := by decide +kernel
theorem dX4_act_34 : decode cX4_act 34 = .ok (.iload_n 3, 1) := by decide +kernel
theorem dX4_act_35 : decode cX4_act 35 = .ok (.invokevirtual 137, 3) := by decide +kernel
theorem dX4_act_38 : decode cX4_act 38 = .ok (.ifCond .ne 6, 3) := by decide +kernel
theorem dX4_act_41 : decode cX4_act 41 = .ok (.bipush (-2), 2) := by decide +kernel
theorem dX4_act_43 : decode cX4_act 43 = .ok (.ireturn, 1) := by decide +kernel
theorem dX4_act_44 : decode cX4_act 44 = .ok (.aload_n 0, 1) := by decide +kernel
theorem dX4_act_45 : decode cX4_act 45 = .ok (.getfield 26, 3) := by decide +kernel
theorem dX4_act_48 : decode cX4_act 48 = .ok (.iload_n 3, 1) := by decide +kernel
theorem dX4_act_49 : decode cX4_act 49 = .ok (.putfield 77, 3) := by decide +kernel
theorem dX4_act_52 : decode cX4_act 52 = .ok (.aload_n 0, 1) := by decide +kernel
theorem dX4_act_53 : decode cX4_act 53 = .ok (.getfield 26, 3) := by decide +kernel
theorem dX4_act_56 : decode cX4_act 56 = .ok (.dup, 1) := by decide +kernel
theorem dX4_act_57 : decode cX4_act 57 = .ok (.getfield 131, 3) := by decide +kernel
theorem dX4_act_60 : decode cX4_act 60 = .ok (.iconst 1, 1) := by decide +kernel
theorem dX4_act_61 : decode cX4_act 61 = .ok (.iadd, 1) := by decide +kernel
theorem dX4_act_62 : decode cX4_act 62 = .ok (.putfield 131, 3) := by decide +kernel
theorem dX4_act_65 : decode cX4_act 65 = .ok (.aload_n 0, 1) := by decide +kernel
theorem dX4_act_66 : decode cX4_act 66 = .ok (.getfield 37, 3) := by decide +kernel
theorem dX4_act_69 : decode cX4_act 69 = .ok (.iload_n 3, 1) := by decide +kernel
theorem dX4_act_70 : decode cX4_act 70 = .ok (.invokevirtual 207, 3) := by decide +kernel
theorem dX4_act_73 : decode cX4_act 73 = .ok (.ireturn, 1) := by decide +kernel
theorem dX4_isImage_0 : decode cX4_isImage 0 = .ok (.iload_n 1, 1) := by decide +kernel
theorem dX4_isImage_1 : decode cX4_isImage 1 = .ok (.ifCond .lt 21, 3) := by decide +kernel
theorem dX4_isImage_4 : decode cX4_isImage 4 = .ok (.iload_n 1, 1) := by decide +kernel
theorem dX4_isImage_5 : decode cX4_isImage 5 = .ok (.iconst 2, 1) := by decide +kernel
theorem dX4_isImage_6 : decode cX4_isImage 6 = .ok (.if_icmp .ge 16, 3) := by decide +kernel
theorem dX4_isImage_9 : decode cX4_isImage 9 = .ok (.iload_n 1, 1) := by decide +kernel
theorem dX4_isImage_10 : decode cX4_isImage 10 = .ok (.aload_n 0, 1) := by decide +kernel
theorem dX4_isImage_11 : decode cX4_isImage 11 = .ok (.getfield 30, 3) := by decide +kernel
theorem dX4_isImage_14 : decode cX4_isImage 14 = .ok (.arraylength, 1) := by decide +kernel
theorem dX4_isImage_15 : decode cX4_isImage 15 = .ok (.if_icmp .ge 7, 3) := by decide +kernel
theorem dX4_isImage_18 : decode cX4_isImage 18 = .ok (.iconst 1, 1) := by decide +kernel
theorem dX4_isImage_19 : decode cX4_isImage 19 = .ok (.goto 4, 3) := by decide +kernel
theorem dX4_isImage_22 : decode cX4_isImage 22 = .ok (.iconst 0, 1) := by decide +kernel
theorem dX4_isImage_23 : decode cX4_isImage 23 = .ok (.ireturn, 1) := by decide +kernel
set_option maxRecDepth 20000 in
theorem ggX4_markOfPanel_X4_placeIn : GoodIn wsX4_markOfPanel wsX4_placeIn := goodIn_r _ [6] (by decide +kernel) (by decide +kernel)
set_option maxRecDepth 20000 in
theorem gX4_markOfPanel_X4_placeIn : GoodIn wsX4_markOfPanel (va_wsS RX4 80 yX4_placeIn wsX4_placeIn) := goodIn_app (goodIn_of _ (by decide +kernel)) ggX4_markOfPanel_X4_placeIn
theorem dX4_markOfPanel_0 : decode cX4_markOfPanel 0 = .ok (.aload_n 0, 1) := by decide +kernel
theorem dX4_markOfPanel_1 : decode cX4_markOfPanel 1 = .ok (.dup, 1) := by decide +kernel
theorem dX4_markOfPanel_2 : decode cX4_markOfPanel 2 = .ok (.getfield 210, 3) := by decide +kernel
theorem dX4_markOfPanel_5 : decode cX4_markOfPanel 5 = .ok (.lconst 1, 1) := by decide +kernel
theorem dX4_markOfPanel_6 : decode cX4_markOfPanel 6 = .ok (.ladd, 1) := by decide +kernel
theorem dX4_markOfPanel_7 : decode cX4_markOfPanel 7 = .ok (.putfield 210, 3) := by decide +kernel
theorem dX4_markOfPanel_10 : decode cX4_markOfPanel 10 = .ok (.aload_n 0, 1) := by decide +kernel
theorem dX4_markOfPanel_11 : decode cX4_markOfPanel 11 = .ok (.getfield 26, 3) := by decide +kernel
theorem dX4_markOfPanel_14 : decode cX4_markOfPanel 14 = .ok (.getfield 77, 3) := by decide +kernel
theorem dX4_markOfPanel_17 : decode cX4_markOfPanel 17 = .ok (.iload_n 1, 1) := by decide +kernel
theorem dX4_markOfPanel_18 : decode cX4_markOfPanel 18 = .ok (.invokestatic 80, 3) := by decide +kernel
theorem dX4_markOfPanel_21 : decode cX4_markOfPanel 21 = .ok (.ireturn, 1) := by decide +kernel
set_option maxRecDepth 20000 in
theorem ggX4_markOfBearing_X4_markOfPanel : GoodIn wsX4_markOfBearing wsX4_markOfPanel := goodIn_r _ [7, 1, 8, 9, 10, 6, 11, 12, 13, 14, 15, 16, 17, 18, 19, 20, 21, 22, 23, 24, 25, 26] (by decide +kernel) (by decide +kernel)
set_option maxRecDepth 20000 in
theorem gX4_markOfBearing_X4_markOfPanel : GoodIn wsX4_markOfBearing (wsV RX4 179 RX4 yX4_markOfPanel wsX4_markOfPanel) := goodIn_app (goodIn_of _ (by decide +kernel)) ggX4_markOfBearing_X4_markOfPanel
theorem dX4_markOfBearing_0 : decode cX4_markOfBearing 0 = .ok (.aload_n 0, 1) := by decide +kernel
theorem dX4_markOfBearing_1 : decode cX4_markOfBearing 1 = .ok (.dup, 1) := by decide +kernel
theorem dX4_markOfBearing_2 : decode cX4_markOfBearing 2 = .ok (.getfield 210, 3) := by decide +kernel
theorem dX4_markOfBearing_5 : decode cX4_markOfBearing 5 = .ok (.ldc2_w 218, 3) := by decide +kernel
theorem dX4_markOfBearing_8 : decode cX4_markOfBearing 8 = .ok (.ladd, 1) := by decide +kernel
theorem dX4_markOfBearing_9 : decode cX4_markOfBearing 9 = .ok (.putfield 210, 3) := by decide +kernel
theorem dX4_markOfBearing_12 : decode cX4_markOfBearing 12 = .ok (.aload_n 0, 1) := by decide +kernel
theorem dX4_markOfBearing_13 : decode cX4_markOfBearing 13 = .ok (.iload_n 1, 1) := by decide +kernel
theorem dX4_markOfBearing_14 : decode cX4_markOfBearing 14 = .ok (.invokevirtual 179, 3) := by decide +kernel
theorem dX4_markOfBearing_17 : decode cX4_markOfBearing 17 = .ok (.iconst 2, 1) := by decide +kernel
theorem dX4_markOfBearing_18 : decode cX4_markOfBearing 18 = .ok (.imul, 1) := by decide +kernel
theorem dX4_markOfBearing_19 : decode cX4_markOfBearing 19 = .ok (.ireturn, 1) := by decide +kernel
set_option maxRecDepth 20000 in
theorem ggX4_markOfLight_X4_markOfPanel : GoodIn wsX4_markOfLight wsX4_markOfPanel := goodIn_r _ [8, 1, 9, 10, 11, 7, 12, 23, 24, 25, 26, 27, 28, 29, 30, 31, 32, 33, 34, 35, 36, 37] (by decide +kernel) (by decide +kernel)
set_option maxRecDepth 20000 in
theorem gX4_markOfLight_X4_markOfPanel : GoodIn wsX4_markOfLight (wsV RX4 179 RX4 yX4_markOfPanel wsX4_markOfPanel) := goodIn_app (goodIn_of _ (by decide +kernel)) ggX4_markOfLight_X4_markOfPanel
set_option maxRecDepth 20000 in
theorem ggX4_markOfLight_X1_sortOf : GoodIn wsX4_markOfLight wsX1_sortOf := goodIn_r _ [16, 17, 18, 19, 20, 14, 21, 22, 38, 39, 40, 41, 42, 43, 44, 45, 46, 47, 48] (by decide +kernel) (by decide +kernel)
set_option maxRecDepth 20000 in
theorem gX4_markOfLight_X1_sortOf_n73 : GoodIn wsX4_markOfLight (wsX1_sortOf) := ggX4_markOfLight_X1_sortOf
theorem dX4_markOfLight_0 : decode cX4_markOfLight 0 = .ok (.aload_n 0, 1) := by decide +kernel
theorem dX4_markOfLight_1 : decode cX4_markOfLight 1 = .ok (.dup, 1) := by decide +kernel
theorem dX4_markOfLight_2 : decode cX4_markOfLight 2 = .ok (.getfield 210, 3) := by decide +kernel
theorem dX4_markOfLight_5 : decode cX4_markOfLight 5 = .ok (.ldc2_w 220, 3) := by decide +kernel
theorem dX4_markOfLight_8 : decode cX4_markOfLight 8 = .ok (.ladd, 1) := by decide +kernel
theorem dX4_markOfLight_9 : decode cX4_markOfLight 9 = .ok (.putfield 210, 3) := by decide +kernel
theorem dX4_markOfLight_12 : decode cX4_markOfLight 12 = .ok (.aload_n 0, 1) := by decide +kernel
theorem dX4_markOfLight_13 : decode cX4_markOfLight 13 = .ok (.iload_n 1, 1) := by decide +kernel
theorem dX4_markOfLight_14 : decode cX4_markOfLight 14 = .ok (.invokevirtual 179, 3) := by decide +kernel
theorem dX4_markOfLight_17 : decode cX4_markOfLight 17 = .ok (.aload_n 0, 1) := by decide +kernel
theorem dX4_markOfLight_18 : decode cX4_markOfLight 18 = .ok (.getfield 37, 3) := by decide +kernel
theorem dX4_markOfLight_21 : decode cX4_markOfLight 21 = .ok (.iload_n 1, 1) := by decide +kernel
theorem dX4_markOfLight_22 : decode cX4_markOfLight 22 = .ok (.invokevirtual 73, 3) := by decide +kernel
theorem dX4_markOfLight_25 : decode cX4_markOfLight 25 = .ok (.iadd, 1) := by decide +kernel
theorem dX4_markOfLight_26 : decode cX4_markOfLight 26 = .ok (.ireturn, 1) := by decide +kernel
set_option maxRecDepth 20000 in
theorem ggX4_markOfOld_X4_markOfBearing : GoodIn wsX4_markOfOld wsX4_markOfBearing := goodIn_r _ [8, 1, 9, 10, 11, 12, 7, 13, 3, 14, 15, 16, 17, 18, 19, 20, 21, 22, 23, 24, 25, 26, 27, 28, 29, 30, 31] (by decide +kernel) (by decide +kernel)
set_option maxRecDepth 20000 in
theorem gX4_markOfOld_X4_markOfBearing : GoodIn wsX4_markOfOld (wsV RX4 182 RX4 yX4_markOfBearing wsX4_markOfBearing) := goodIn_app (goodIn_of _ (by decide +kernel)) ggX4_markOfOld_X4_markOfBearing
theorem dX4_markOfOld_0 : decode cX4_markOfOld 0 = .ok (.aload_n 0, 1) := by decide +kernel
theorem dX4_markOfOld_1 : decode cX4_markOfOld 1 = .ok (.dup, 1) := by decide +kernel
theorem dX4_markOfOld_2 : decode cX4_markOfOld 2 = .ok (.getfield 210, 3) := by decide +kernel
theorem dX4_markOfOld_5 : decode cX4_markOfOld 5 = .ok (.ldc2_w 222, 3) := by decide +kernel
theorem dX4_markOfOld_8 : decode cX4_markOfOld 8 = .ok (.ladd, 1) := by decide +kernel
theorem dX4_markOfOld_9 : decode cX4_markOfOld 9 = .ok (.putfield 210, 3) := by decide +kernel
theorem dX4_markOfOld_12 : decode cX4_markOfOld 12 = .ok (.aload_n 0, 1) := by decide +kernel
theorem dX4_markOfOld_13 : decode cX4_markOfOld 13 = .ok (.iload_n 1, 1) := by decide +kernel
theorem dX4_markOfOld_14 : decode cX4_markOfOld 14 = .ok (.invokevirtual 182, 3) := by decide +kernel
theorem dX4_markOfOld_17 : decode cX4_markOfOld 17 = .ok (.aload_n 0, 1) := by decide +kernel
theorem dX4_markOfOld_18 : decode cX4_markOfOld 18 = .ok (.getfield 26, 3) := by decide +kernel
theorem dX4_markOfOld_21 : decode cX4_markOfOld 21 = .ok (.getfield 122, 3) := by decide +kernel
theorem dX4_markOfOld_24 : decode cX4_markOfOld 24 = .ok (.iadd, 1) := by decide +kernel
theorem dX4_markOfOld_25 : decode cX4_markOfOld 25 = .ok (.ireturn, 1) := by decide +kernel
set_option maxRecDepth 20000 in
theorem ggX4_markOfClear_X4_markOfLight : GoodIn wsX4_markOfClear wsX4_markOfLight := goodIn_r _ [9, 1, 10, 3, 11, 12, 13, 8, 14, 4, 15, 16, 17, 18, 19, 20, 21, 22, 23, 24, 25, 26, 27, 31, 32, 33, 34, 35, 36, 37, 38, 39, 40, 41, 42, 43, 44, 45, 46, 47, 48, 49, 50, 51, 52, 53, 54, 55, 56] (by decide +kernel) (by decide +kernel)
set_option maxRecDepth 20000 in
theorem gX4_markOfClear_X4_markOfLight : GoodIn wsX4_markOfClear (wsV RX4 185 RX4 yX4_markOfLight wsX4_markOfLight) := goodIn_app (goodIn_of _ (by decide +kernel)) ggX4_markOfClear_X4_markOfLight
set_option maxRecDepth 20000 in
theorem ggX4_markOfClear_X1_lyingIn : GoodIn wsX4_markOfClear wsX1_lyingIn := goodIn_r _ [30, 27, 16, 8, 17, 46, 47, 48, 49, 50, 51, 52, 53, 54, 55, 56] (by decide +kernel) (by decide +kernel)
set_option maxRecDepth 20000 in
theorem gX4_markOfClear_X1_lyingIn_n207 : GoodIn wsX4_markOfClear (wsX1_lyingIn) := ggX4_markOfClear_X1_lyingIn
theorem dX4_markOfClear_0 : decode cX4_markOfClear 0 = .ok (.aload_n 0, 1) := by decide +kernel
theorem dX4_markOfClear_1 : decode cX4_markOfClear 1 = .ok (.dup, 1) := by decide +kernel
theorem dX4_markOfClear_2 : decode cX4_markOfClear 2 = .ok (.getfield 210, 3) := by decide +kernel
theorem dX4_markOfClear_5 : decode cX4_markOfClear 5 = .ok (.ldc2_w 224, 3) := by decide +kernel
theorem dX4_markOfClear_8 : decode cX4_markOfClear 8 = .ok (.ladd, 1) := by decide +kernel
theorem dX4_markOfClear_9 : decode cX4_markOfClear 9 = .ok (.putfield 210, 3) := by decide +kernel
theorem dX4_markOfClear_12 : decode cX4_markOfClear 12 = .ok (.aload_n 0, 1) := by decide +kernel
theorem dX4_markOfClear_13 : decode cX4_markOfClear 13 = .ok (.iload_n 1, 1) := by decide +kernel
theorem dX4_markOfClear_14 : decode cX4_markOfClear 14 = .ok (.invokevirtual 185, 3) := by decide +kernel
theorem dX4_markOfClear_17 : decode cX4_markOfClear 17 = .ok (.aload_n 0, 1) := by decide +kernel
theorem dX4_markOfClear_18 : decode cX4_markOfClear 18 = .ok (.getfield 37, 3) := by decide +kernel
theorem dX4_markOfClear_21 : decode cX4_markOfClear 21 = .ok (.aload_n 0, 1) := by decide +kernel
theorem dX4_markOfClear_22 : decode cX4_markOfClear 22 = .ok (.getfield 26, 3) := by decide +kernel
theorem dX4_markOfClear_25 : decode cX4_markOfClear 25 = .ok (.getfield 77, 3) := by decide +kernel
theorem dX4_markOfClear_28 : decode cX4_markOfClear 28 = .ok (.invokevirtual 207, 3) := by decide +kernel
theorem dX4_markOfClear_31 : decode cX4_markOfClear 31 = .ok (.iadd, 1) := by decide +kernel
theorem dX4_markOfClear_32 : decode cX4_markOfClear 32 = .ok (.ireturn, 1) := by decide +kernel
set_option maxRecDepth 20000 in
theorem ggX4_markOfNeighbours_X4_markOfPanel : GoodIn wsX4_markOfNeighbours wsX4_markOfPanel := goodIn_r _ [7, 1, 8, 9, 10, 6, 11, 12, 13, 14, 15, 16, 17, 18, 19, 20, 21, 22, 23, 24, 25, 26] (by decide +kernel) (by decide +kernel)
set_option maxRecDepth 20000 in
theorem gX4_markOfNeighbours_X4_markOfPanel : GoodIn wsX4_markOfNeighbours (wsV RX4 179 RX4 yX4_markOfPanel wsX4_markOfPanel) := goodIn_app (goodIn_of _ (by decide +kernel)) ggX4_markOfNeighbours_X4_markOfPanel
theorem dX4_markOfNeighbours_0 : decode cX4_markOfNeighbours 0 = .ok (.aload_n 0, 1) := by decide +kernel
theorem dX4_markOfNeighbours_1 : decode cX4_markOfNeighbours 1 = .ok (.dup, 1) := by decide +kernel
theorem dX4_markOfNeighbours_2 : decode cX4_markOfNeighbours 2 = .ok (.getfield 210, 3) := by decide +kernel
theorem dX4_markOfNeighbours_5 : decode cX4_markOfNeighbours 5 = .ok (.ldc2_w 226, 3) := by decide +kernel
theorem dX4_markOfNeighbours_8 : decode cX4_markOfNeighbours 8 = .ok (.ladd, 1) := by decide +kernel
theorem dX4_markOfNeighbours_9 : decode cX4_markOfNeighbours 9 = .ok (.putfield 210, 3) := by decide +kernel
theorem dX4_markOfNeighbours_12 : decode cX4_markOfNeighbours 12 = .ok (.aload_n 0, 1) := by decide +kernel
theorem dX4_markOfNeighbours_13 : decode cX4_markOfNeighbours 13 = .ok (.iload_n 1, 1) := by decide +kernel
theorem dX4_markOfNeighbours_14 : decode cX4_markOfNeighbours 14 = .ok (.invokevirtual 179, 3) := by decide +kernel
theorem dX4_markOfNeighbours_17 : decode cX4_markOfNeighbours 17 = .ok (.iload_n 1, 1) := by decide +kernel
theorem dX4_markOfNeighbours_18 : decode cX4_markOfNeighbours 18 = .ok (.isub, 1) := by decide +kernel
theorem dX4_markOfNeighbours_19 : decode cX4_markOfNeighbours 19 = .ok (.ireturn, 1) := by decide +kernel
theorem dX4_isSlot_0 : decode cX4_isSlot 0 = .ok (.iload_n 0, 1) := by decide +kernel
theorem dX4_isSlot_1 : decode cX4_isSlot 1 = .ok (.ifCond .lt 13, 3) := by decide +kernel
theorem dX4_isSlot_4 : decode cX4_isSlot 4 = .ok (.iload_n 0, 1) := by decide +kernel
theorem dX4_isSlot_5 : decode cX4_isSlot 5 = .ok (.bipush 8, 2) := by decide +kernel
theorem dX4_isSlot_7 : decode cX4_isSlot 7 = .ok (.if_icmp .ge 7, 3) := by decide +kernel
theorem dX4_isSlot_10 : decode cX4_isSlot 10 = .ok (.iconst 1, 1) := by decide +kernel
theorem dX4_isSlot_11 : decode cX4_isSlot 11 = .ok (.goto 4, 3) := by decide +kernel
theorem dX4_isSlot_14 : decode cX4_isSlot 14 = .ok (.iconst 0, 1) := by decide +kernel
theorem dX4_isSlot_15 : decode cX4_isSlot 15 = .ok (.ireturn, 1) := by decide +kernel
theorem dX4_asNumber_0 : decode cX4_asNumber 0 = .ok (.iload_n 0, 1) := by decide +kernel
theorem dX4_asNumber_1 : decode cX4_asNumber 1 = .ok (.ifCond .eq 7, 3) := by decide +kernel
theorem dX4_asNumber_4 : decode cX4_asNumber 4 = .ok (.iconst 1, 1) := by decide +kernel
theorem dX4_asNumber_5 : decode cX4_asNumber 5 = .ok (.goto 4, 3) := by decide +kernel
theorem dX4_asNumber_8 : decode cX4_asNumber 8 = .ok (.iconst 0, 1) := by decide +kernel
theorem dX4_asNumber_9 : decode cX4_asNumber 9 = .ok (.ireturn, 1) := by decide +kernel
theorem dX4_placeIn_0 : decode cX4_placeIn 0 = .ok (.iload_n 1, 1) := by decide +kernel
theorem dX4_placeIn_1 : decode cX4_placeIn 1 = .ok (.tableswitch 52 0 2 #[27, 36, 44], 27) := by decide +kernel
theorem dX4_placeIn_28 : decode cX4_placeIn 28 = .ok (.iload_n 0, 1) := by decide +kernel
theorem dX4_placeIn_29 : decode cX4_placeIn 29 = .ok (.sipush 729, 3) := by decide +kernel
theorem dX4_placeIn_32 : decode cX4_placeIn 32 = .ok (.idiv, 1) := by decide +kernel
theorem dX4_placeIn_33 : decode cX4_placeIn 33 = .ok (.bipush 9, 2) := by decide +kernel
theorem dX4_placeIn_35 : decode cX4_placeIn 35 = .ok (.irem, 1) := by decide +kernel
theorem dX4_placeIn_36 : decode cX4_placeIn 36 = .ok (.ireturn, 1) := by decide +kernel
theorem dX4_placeIn_37 : decode cX4_placeIn 37 = .ok (.iload_n 0, 1) := by decide +kernel
theorem dX4_placeIn_38 : decode cX4_placeIn 38 = .ok (.bipush 81, 2) := by decide +kernel
theorem dX4_placeIn_40 : decode cX4_placeIn 40 = .ok (.idiv, 1) := by decide +kernel
theorem dX4_placeIn_41 : decode cX4_placeIn 41 = .ok (.bipush 9, 2) := by decide +kernel
theorem dX4_placeIn_43 : decode cX4_placeIn 43 = .ok (.irem, 1) := by decide +kernel
theorem dX4_placeIn_44 : decode cX4_placeIn 44 = .ok (.ireturn, 1) := by decide +kernel
theorem dX4_placeIn_45 : decode cX4_placeIn 45 = .ok (.iload_n 0, 1) := by decide +kernel
theorem dX4_placeIn_46 : decode cX4_placeIn 46 = .ok (.bipush 9, 2) := by decide +kernel
theorem dX4_placeIn_48 : decode cX4_placeIn 48 = .ok (.idiv, 1) := by decide +kernel
theorem dX4_placeIn_49 : decode cX4_placeIn 49 = .ok (.bipush 9, 2) := by decide +kernel
theorem dX4_placeIn_51 : decode cX4_placeIn 51 = .ok (.irem, 1) := by decide +kernel
theorem dX4_placeIn_52 : decode cX4_placeIn 52 = .ok (.ireturn, 1) := by decide +kernel
theorem dX4_placeIn_53 : decode cX4_placeIn 53 = .ok (.iload_n 0, 1) := by decide +kernel
theorem dX4_placeIn_54 : decode cX4_placeIn 54 = .ok (.bipush 9, 2) := by decide +kernel
theorem dX4_placeIn_56 : decode cX4_placeIn 56 = .ok (.irem, 1) := by decide +kernel
theorem dX4_placeIn_57 : decode cX4_placeIn 57 = .ok (.ireturn, 1) := by decide +kernel
theorem dX4_unitOf_0 : decode cX4_unitOf 0 = .ok (.iload_n 0, 1) := by decide +kernel
theorem dX4_unitOf_1 : decode cX4_unitOf 1 = .ok (.tableswitch 37 0 2 #[27, 31, 34], 27) := by decide +kernel
theorem dX4_unitOf_28 : decode cX4_unitOf 28 = .ok (.sipush 729, 3) := by decide +kernel
theorem dX4_unitOf_31 : decode cX4_unitOf 31 = .ok (.ireturn, 1) := by decide +kernel
theorem dX4_unitOf_32 : decode cX4_unitOf 32 = .ok (.bipush 81, 2) := by decide +kernel
theorem dX4_unitOf_34 : decode cX4_unitOf 34 = .ok (.ireturn, 1) := by decide +kernel
theorem dX4_unitOf_35 : decode cX4_unitOf 35 = .ok (.bipush 9, 2) := by decide +kernel
theorem dX4_unitOf_37 : decode cX4_unitOf 37 = .ok (.ireturn, 1) := by decide +kernel
theorem dX4_unitOf_38 : decode cX4_unitOf 38 = .ok (.iconst 1, 1) := by decide +kernel
theorem dX4_unitOf_39 : decode cX4_unitOf 39 = .ok (.ireturn, 1) := by decide +kernel
set_option maxRecDepth 20000 in
theorem ggX4_moved_X4_placeIn : GoodIn wsX4_moved wsX4_placeIn := goodIn_r _ [4] (by decide +kernel) (by decide +kernel)
set_option maxRecDepth 20000 in
theorem gX4_moved_X4_placeIn : GoodIn wsX4_moved (va_wsS RX4 80 yX4_placeIn wsX4_placeIn) := goodIn_app (goodIn_of _ (by decide +kernel)) ggX4_moved_X4_placeIn
set_option maxRecDepth 20000 in
theorem ggX4_moved_X4_unitOf : GoodIn wsX4_moved wsX4_unitOf := goodIn_r _ [7] (by decide +kernel) (by decide +kernel)
set_option maxRecDepth 20000 in
theorem gX4_moved_X4_unitOf : GoodIn wsX4_moved (va_wsS RX4 228 yX4_unitOf wsX4_unitOf) := goodIn_app (goodIn_of _ (by decide +kernel)) ggX4_moved_X4_unitOf
theorem dX4_moved_0 : decode cX4_moved 0 = .ok (.iload_n 0, 1) := by decide +kernel
theorem dX4_moved_1 : decode cX4_moved 1 = .ok (.iload_n 2, 1) := by decide +kernel
theorem dX4_moved_2 : decode cX4_moved 2 = .ok (.iload_n 0, 1) := by decide +kernel
theorem dX4_moved_3 : decode cX4_moved 3 = .ok (.iload_n 1, 1) := by decide +kernel
theorem dX4_moved_4 : decode cX4_moved 4 = .ok (.invokestatic 80, 3) := by decide +kernel
theorem dX4_moved_7 : decode cX4_moved 7 = .ok (.isub, 1) := by decide +kernel
theorem dX4_moved_8 : decode cX4_moved 8 = .ok (.iload_n 1, 1) := by decide +kernel
theorem dX4_moved_9 : decode cX4_moved 9 = .ok (.invokestatic 228, 3) := by decide +kernel
theorem dX4_moved_12 : decode cX4_moved 12 = .ok (.imul, 1) := by decide +kernel
theorem dX4_moved_13 : decode cX4_moved 13 = .ok (.iadd, 1) := by decide +kernel
theorem dX4_moved_14 : decode cX4_moved 14 = .ok (.ireturn, 1) := by decide +kernel
