theorem dX10_isPart_31 : decode cX10_isPart 31 = .ok (.ifCond .ne 7, 3) := by decide +kernel
theorem dX10_isPart_34 : decode cX10_isPart 34 = .ok (.iconst 1, 1) := by decide +kernel
theorem dX10_isPart_35 : decode cX10_isPart 35 = .ok (.goto 4, 3) := by decide +kernel
theorem dX10_isPart_38 : decode cX10_isPart 38 = .ok (.iconst 0, 1) := by decide +kernel
theorem dX10_isPart_39 : decode cX10_isPart 39 = .ok (.ireturn, 1) := by decide +kernel
set_option maxRecDepth 20000 in
theorem ggX10_stands_X10_isPart : GoodIn wsX10_stands wsX10_isPart := goodIn_r _ [5, 6, 7, 8, 9, 4, 10, 11, 12, 13, 14, 15, 16, 17, 18, 19, 93, 94, 95, 96, 97, 98, 99, 100, 101, 102, 103, 104, 105, 106, 107, 108, 109, 110, 111, 112, 113, 114, 115, 116, 117, 118, 119, 120, 121, 122, 123, 124, 125, 126, 127, 128] (by decide +kernel) (by decide +kernel)
set_option maxRecDepth 20000 in
theorem gX10_stands_X10_isPart : GoodIn wsX10_stands (wsV RX10 249 RX10 yX10_isPart wsX10_isPart) := goodIn_app (goodIn_of _ (by decide +kernel)) ggX10_stands_X10_isPart
set_option maxRecDepth 20000 in
theorem ggX10_stands_X10_tree : GoodIn wsX10_stands wsX10_tree := goodIn_r _ [23, 24, 25, 26, 27, 16, 11, 28, 29, 30, 31, 32, 33, 4, 34, 6, 35, 36, 37, 38, 39, 40, 41, 42, 7, 8, 9, 10, 12, 13, 14, 15, 43, 44, 45, 46, 47, 48, 49, 50, 51, 52, 53, 54, 55, 56, 57, 58, 59, 60, 61, 62, 63, 64, 65, 93, 94, 95, 96, 97, 98, 99, 100, 101, 102, 103, 104, 105, 106, 107, 108, 109, 110, 111, 112, 113, 114, 115, 116, 117, 118, 119, 120, 121, 122, 123, 124, 125, 126, 127, 128] (by decide +kernel) (by decide +kernel)
set_option maxRecDepth 20000 in
theorem gX10_stands_X10_tree : GoodIn wsX10_stands (wsV RX10 234 RX10 yX10_tree wsX10_tree) := goodIn_app (goodIn_of _ (by decide +kernel)) ggX10_stands_X10_tree
set_option maxRecDepth 20000 in
theorem ggX10_stands_X10_isFew : GoodIn wsX10_stands wsX10_isFew := goodIn_r _ [69, 16, 6, 7, 8, 9, 4, 10, 11, 12, 13, 14, 15, 17, 18, 19, 93, 94, 95, 96, 97, 98, 99, 100, 101, 102, 103, 104, 105, 106, 107, 108, 109, 110, 111, 112, 113, 114, 115, 116, 117, 118, 119, 120, 121, 122, 123, 124, 125, 126, 127, 128] (by decide +kernel) (by decide +kernel)
set_option maxRecDepth 20000 in
theorem gX10_stands_X10_isFew : GoodIn wsX10_stands (wsV RX10 252 RX10 yX10_isFew wsX10_isFew) := goodIn_app (goodIn_of _ (by decide +kernel)) ggX10_stands_X10_isFew
set_option maxRecDepth 20000 in
theorem ggX10_stands_X10_isMany : GoodIn wsX10_stands wsX10_isMany := goodIn_r _ [73, 7, 8, 9, 4, 10, 11, 12, 13, 14, 15, 16, 74, 75, 76, 77, 6, 17, 18, 19, 93, 94, 95, 96, 97, 98, 99, 100, 101, 102, 103, 104, 105, 106, 107, 108, 109, 110, 111, 112, 113, 114, 115, 116, 117, 118, 119, 120, 121, 122, 123, 124, 125, 126, 127, 128] (by decide +kernel) (by decide +kernel)
set_option maxRecDepth 20000 in
theorem gX10_stands_X10_isMany : GoodIn wsX10_stands (wsV RX10 255 RX10 yX10_isMany wsX10_isMany) := goodIn_app (goodIn_of _ (by decide +kernel)) ggX10_stands_X10_isMany
set_option maxRecDepth 20000 in
theorem ggX10_stands_X10_isRing : GoodIn wsX10_stands wsX10_isRing := goodIn_r _ [81, 82, 6, 16, 11, 7, 8, 9, 4, 10, 12, 13, 14, 15, 39, 40, 41, 42, 74, 75, 76, 77, 17, 18, 19, 93, 94, 95, 96, 97, 98, 99, 100, 101, 102, 103, 104, 105, 106, 107, 108, 109, 110, 111, 112, 113, 114, 115, 116, 117, 118, 119, 120, 121, 122, 123, 124, 125, 126, 127, 128] (by decide +kernel) (by decide +kernel)
set_option maxRecDepth 20000 in
theorem gX10_stands_X10_isRing : GoodIn wsX10_stands (wsV RX10 258 RX10 yX10_isRing wsX10_isRing) := goodIn_app (goodIn_of _ (by decide +kernel)) ggX10_stands_X10_isRing
set_option maxRecDepth 20000 in
theorem ggX10_stands_X10_isTwins : GoodIn wsX10_stands wsX10_isTwins := goodIn_r _ [86, 6, 7, 8, 9, 4, 10, 11, 12, 13, 14, 15, 16, 87, 88, 89, 90, 91, 92, 47, 48, 49, 50, 51, 52, 53, 17, 18, 19, 93, 94, 95, 96, 97, 98, 99, 100, 101, 102, 103, 104, 105, 106, 107, 108, 109, 110, 111, 112, 113, 114, 115, 116, 117, 118, 119, 120, 121, 122, 123, 124, 125, 126, 127, 128] (by decide +kernel) (by decide +kernel)
set_option maxRecDepth 20000 in
theorem gX10_stands_X10_isTwins : GoodIn wsX10_stands (wsV RX10 261 RX10 yX10_isTwins wsX10_isTwins) := goodIn_app (goodIn_of _ (by decide +kernel)) ggX10_stands_X10_isTwins
theorem dX10_stands_0 : decode cX10_stands 0 = .ok (.iload_n 1, 1) := by decide +kernel
theorem dX10_stands_1 : decode cX10_stands 1 = .ok (.tableswitch 77 1 5 #[35, 42, 59, 65, 71], 35) := by decide +kernel
theorem dX10_stands_36 : decode cX10_stands 36 = .ok (.aload_n 0, 1) := by decide +kernel
theorem dX10_stands_37 : decode cX10_stands 37 = .ok (.iload_n 2, 1) := by decide +kernel
theorem dX10_stands_38 : decode cX10_stands 38 = .ok (.iload_n 3, 1) := by decide +kernel
theorem dX10_stands_39 : decode cX10_stands 39 = .ok (.invokevirtual 249, 3) := by decide +kernel
theorem dX10_stands_42 : decode cX10_stands 42 = .ok (.ireturn, 1) := by decide +kernel
theorem dX10_stands_43 : decode cX10_stands 43 = .ok (.aload_n 0, 1) := by decide +kernel
theorem dX10_stands_44 : decode cX10_stands 44 = .ok (.invokevirtual 234, 3) := by decide +kernel
theorem dX10_stands_47 : decode cX10_stands 47 = .ok (.iload 4, 2) := by decide +kernel
theorem dX10_stands_49 : decode cX10_stands 49 = .ok (.i2l, 1) := by decide +kernel
theorem dX10_stands_50 : decode cX10_stands 50 = .ok (.lcmp, 1) := by decide +kernel
theorem dX10_stands_51 : decode cX10_stands 51 = .ok (.ifCond .lt 7, 3) := by decide +kernel
theorem dX10_stands_54 : decode cX10_stands 54 = .ok (.iconst 1, 1) := by decide +kernel
theorem dX10_stands_55 : decode cX10_stands 55 = .ok (.goto 4, 3) := by decide +kernel
theorem dX10_stands_58 : decode cX10_stands 58 = .ok (.iconst 0, 1) := by decide +kernel
theorem dX10_stands_59 : decode cX10_stands 59 = .ok (.ireturn, 1) := by decide +kernel
theorem dX10_stands_60 : decode cX10_stands 60 = .ok (.aload_n 0, 1) := by decide +kernel
theorem dX10_stands_61 : decode cX10_stands 61 = .ok (.iload_n 2, 1) := by decide +kernel
theorem dX10_stands_62 : decode cX10_stands 62 = .ok (.invokevirtual 252, 3) := by decide +kernel
theorem dX10_stands_65 : decode cX10_stands 65 = .ok (.ireturn, 1) := by decide +kernel
theorem dX10_stands_66 : decode cX10_stands 66 = .ok (.aload_n 0, 1) := by decide +kernel
theorem dX10_stands_67 : decode cX10_stands 67 = .ok (.iload_n 2, 1) := by decide +kernel
theorem dX10_stands_68 : decode cX10_stands 68 = .ok (.invokevirtual 255, 3) := by decide +kernel
theorem dX10_stands_71 : decode cX10_stands 71 = .ok (.ireturn, 1) := by decide +kernel
theorem dX10_stands_72 : decode cX10_stands 72 = .ok (.aload_n 0, 1) := by decide +kernel
theorem dX10_stands_73 : decode cX10_stands 73 = .ok (.iload_n 2, 1) := by decide +kernel
theorem dX10_stands_74 : decode cX10_stands 74 = .ok (.invokevirtual 258, 3) := by decide +kernel
theorem dX10_stands_77 : decode cX10_stands 77 = .ok (.ireturn, 1) := by decide +kernel
theorem dX10_stands_78 : decode cX10_stands 78 = .ok (.aload_n 0, 1) := by decide +kernel
theorem dX10_stands_79 : decode cX10_stands 79 = .ok (.iload_n 2, 1) := by decide +kernel
theorem dX10_stands_80 : decode cX10_stands 80 = .ok (.iload_n 3, 1) := by decide +kernel
theorem dX10_stands_81 : decode cX10_stands 81 = .ok (.invokevirtual 261, 3) := by decide +kernel
theorem dX10_stands_84 : decode cX10_stands 84 = .ok (.ireturn, 1) := by decide +kernel
set_option maxRecDepth 20000 in
theorem ggX10_part_X10_pairOf : GoodIn wsX10_part wsX10_pairOf := goodIn_r _ [5] (by decide +kernel) (by decide +kernel)
set_option maxRecDepth 20000 in
theorem gX10_part_X10_pairOf : GoodIn wsX10_part (va_wsS RX10 243 yX10_pairOf wsX10_pairOf) := goodIn_app (goodIn_of _ (by decide +kernel)) ggX10_part_X10_pairOf
set_option maxRecDepth 20000 in
theorem ggX10_part_X10_pushCase : GoodIn wsX10_part wsX10_pushCase := goodIn_r _ [9, 10, 11, 1, 12, 13, 14, 15, 16, 17, 18, 19, 20, 21, 22, 23, 24, 25, 26, 27, 28, 29, 30, 31, 32, 33, 34, 35, 36, 37, 38, 39, 40, 41, 42, 43, 44, 45, 46, 47] (by decide +kernel) (by decide +kernel)
set_option maxRecDepth 20000 in
theorem gX10_part_X10_pushCase : GoodIn wsX10_part (wsV RX10 264 RX10 yX10_pushCase wsX10_pushCase) := goodIn_app (goodIn_of _ (by decide +kernel)) ggX10_part_X10_pushCase
theorem dX10_part_0 : decode cX10_part 0 = .ok (.aload_n 0, 1) := by decide +kernel
theorem dX10_part_1 : decode cX10_part 1 = .ok (.getfield 72, 3) := by decide +kernel
theorem dX10_part_4 : decode cX10_part 4 = .ok (.iload_n 1, 1) := by decide +kernel
theorem dX10_part_5 : decode cX10_part 5 = .ok (.iload_n 2, 1) := by decide +kernel
theorem dX10_part_6 : decode cX10_part 6 = .ok (.invokestatic 243, 3) := by decide +kernel
theorem dX10_part_9 : decode cX10_part 9 = .ok (.iconst 2, 1) := by decide +kernel
theorem dX10_part_10 : decode cX10_part 10 = .ok (.iastore, 1) := by decide +kernel
theorem dX10_part_11 : decode cX10_part 11 = .ok (.aload_n 0, 1) := by decide +kernel
theorem dX10_part_12 : decode cX10_part 12 = .ok (.invokevirtual 264, 3) := by decide +kernel
theorem dX10_part_15 : decode cX10_part 15 = .ok (.aload_n 0, 1) := by decide +kernel
theorem dX10_part_16 : decode cX10_part 16 = .ok (.getfield 72, 3) := by decide +kernel
theorem dX10_part_19 : decode cX10_part 19 = .ok (.iload_n 1, 1) := by decide +kernel
theorem dX10_part_20 : decode cX10_part 20 = .ok (.iload_n 2, 1) := by decide +kernel
theorem dX10_part_21 : decode cX10_part 21 = .ok (.invokestatic 243, 3) := by decide +kernel
theorem dX10_part_24 : decode cX10_part 24 = .ok (.iconst 1, 1) := by decide +kernel
theorem dX10_part_25 : decode cX10_part 25 = .ok (.iastore, 1) := by decide +kernel
theorem dX10_part_26 : decode cX10_part 26 = .ok (.aload_n 0, 1) := by decide +kernel
theorem dX10_part_27 : decode cX10_part 27 = .ok (.invokevirtual 264, 3) := by decide +kernel
theorem dX10_part_30 : decode cX10_part 30 = .ok (.return_, 1) := by decide +kernel
theorem dX10_write__0 : decode cX10_write_ 0 = .ok (.aload_n 0, 1) := by decide +kernel
theorem dX10_write__1 : decode cX10_write_ 1 = .ok (.getfield 267, 3) := by decide +kernel
theorem dX10_write__4 : decode cX10_write_ 4 = .ok (.sipush 400, 3) := by decide +kernel
theorem dX10_write__7 : decode cX10_write_ 7 = .ok (.if_icmp .ne 5, 3) := by decide +kernel
theorem dX10_write__10 : decode cX10_write_ 10 = .ok (.iconst 0, 1) := by decide +kernel
theorem dX10_write__11 : decode cX10_write_ 11 = .ok (.ireturn, 1) := by decide +kernel
theorem dX10_write__12 : decode cX10_write_ 12 = .ok (.aload_n 0, 1) := by decide +kernel
theorem dX10_write__13 : decode cX10_write_ 13 = .ok (.getfield 90, 3) := by decide +kernel
theorem dX10_write__16 : decode cX10_write_ 16 = .ok (.aload_n 0, 1) := by decide +kernel
theorem dX10_write__17 : decode cX10_write_ 17 = .ok (.getfield 267, 3) := by decide +kernel
theorem dX10_write__20 : decode cX10_write_ 20 = .ok (.iload_n 1, 1) := by decide +kernel
theorem dX10_write__21 : decode cX10_write_ 21 = .ok (.iastore, 1) := by decide +kernel
theorem dX10_write__22 : decode cX10_write_ 22 = .ok (.aload_n 0, 1) := by decide +kernel
theorem dX10_write__23 : decode cX10_write_ 23 = .ok (.getfield 93, 3) := by decide +kernel
theorem dX10_write__26 : decode cX10_write_ 26 = .ok (.aload_n 0, 1) := by decide +kernel
theorem dX10_write__27 : decode cX10_write_ 27 = .ok (.getfield 267, 3) := by decide +kernel
theorem dX10_write__30 : decode cX10_write_ 30 = .ok (.iload_n 2, 1) := by decide +kernel
theorem dX10_write__31 : decode cX10_write_ 31 = .ok (.iastore, 1) := by decide +kernel
theorem dX10_write__32 : decode cX10_write_ 32 = .ok (.aload_n 0, 1) := by decide +kernel
theorem dX10_write__33 : decode cX10_write_ 33 = .ok (.getfield 96, 3) := by decide +kernel
theorem dX10_write__36 : decode cX10_write_ 36 = .ok (.aload_n 0, 1) := by decide +kernel
theorem dX10_write__37 : decode cX10_write_ 37 = .ok (.getfield 267, 3) := by decide +kernel
theorem dX10_write__40 : decode cX10_write_ 40 = .ok (.iload_n 3, 1) := by decide +kernel
theorem dX10_write__41 : decode cX10_write_ 41 = .ok (.iastore, 1) := by decide +kernel
theorem dX10_write__42 : decode cX10_write_ 42 = .ok (.aload_n 0, 1) := by decide +kernel
theorem dX10_write__43 : decode cX10_write_ 43 = .ok (.dup, 1) := by decide +kernel
theorem dX10_write__44 : decode cX10_write_ 44 = .ok (.getfield 267, 3) := by decide +kernel
theorem dX10_write__47 : decode cX10_write_ 47 = .ok (.iconst 1, 1) := by decide +kernel
theorem dX10_write__48 : decode cX10_write_ 48 = .ok (.iadd, 1) := by decide +kernel
theorem dX10_write__49 : decode cX10_write_ 49 = .ok (.putfield 267, 3) := by decide +kernel
theorem dX10_write__52 : decode cX10_write_ 52 = .ok (.iconst 1, 1) := by decide +kernel
theorem dX10_write__53 : decode cX10_write_ 53 = .ok (.ireturn, 1) := by decide +kernel
set_option maxRecDepth 20000 in
theorem ggX10_ending_X10_isTwins : GoodIn wsX10_ending wsX10_isTwins := goodIn_r _ [6, 7, 8, 9, 10, 5, 11, 12, 13, 14, 15, 16, 1, 17, 18, 19, 20, 21, 22, 23, 24, 25, 26, 27, 28, 29, 30, 31, 32, 97, 98, 99, 100, 101, 102, 103, 104, 105, 106, 107, 108, 109, 110, 111, 112, 113, 114, 115, 116, 117, 118, 119, 120, 121, 122, 123, 124, 125, 126, 127, 128, 129, 130, 131, 132] (by decide +kernel) (by decide +kernel)
set_option maxRecDepth 20000 in
theorem gX10_ending_X10_isTwins : GoodIn wsX10_ending (wsV RX10 261 RX10 yX10_isTwins wsX10_isTwins) := goodIn_app (goodIn_of _ (by decide +kernel)) ggX10_ending_X10_isTwins
set_option maxRecDepth 20000 in
theorem ggX10_ending_X10_stands : GoodIn wsX10_ending wsX10_stands := goodIn_r _ [36, 37, 38, 39, 5, 40, 7, 8, 9, 10, 11, 12, 13, 14, 15, 16, 1, 30, 31, 32, 41, 42, 43, 44, 45, 46, 47, 48, 49, 50, 51, 52, 53, 54, 55, 56, 57, 58, 59, 60, 61, 62, 63, 64, 65, 66, 67, 23, 24, 25, 26, 27, 28, 29, 68, 69, 70, 71, 72, 73, 74, 75, 76, 77, 78, 79, 80, 81, 82, 83, 84, 85, 86, 87, 88, 89, 90, 91, 92, 93, 94, 95, 96, 2, 3, 4, 6, 17, 18, 19, 20, 21, 22, 97, 98, 99, 100, 101, 102, 103, 104, 105, 106, 107, 108, 109, 110, 111, 112, 113, 114, 115, 116, 117, 118, 119, 120, 121, 122, 123, 124, 125, 126, 127, 128, 129, 130, 131, 132] (by decide +kernel) (by decide +kernel)
set_option maxRecDepth 20000 in
theorem gX10_ending_X10_stands : GoodIn wsX10_ending (wsV RX10 270 RX10 yX10_stands wsX10_stands) := goodIn_app (goodIn_of _ (by decide +kernel)) ggX10_ending_X10_stands
set_option maxRecDepth 20000 in
theorem ggX10_ending_X10_tree : GoodIn wsX10_ending wsX10_tree := goodIn_r _ [44, 45, 46, 47, 48, 1, 12, 49, 50, 51, 52, 53, 54, 5, 55, 7, 56, 57, 58, 59, 60, 61, 62, 63, 8, 9, 10, 11, 13, 14, 15, 16, 64, 65, 66, 67, 23, 24, 25, 26, 27, 28, 29, 68, 69, 70, 71, 72, 73, 74, 75, 76, 77, 78, 79, 97, 98, 99, 100, 101, 102, 103, 104, 105, 106, 107, 108, 109, 110, 111, 112, 113, 114, 115, 116, 117, 118, 119, 120, 121, 122, 123, 124, 125, 126, 127, 128, 129, 130, 131, 132] (by decide +kernel) (by decide +kernel)
set_option maxRecDepth 20000 in
theorem gX10_ending_X10_tree : GoodIn wsX10_ending (wsV RX10 234 RX10 yX10_tree wsX10_tree) := goodIn_app (goodIn_of _ (by decide +kernel)) ggX10_ending_X10_tree
theorem dX10_ending_0 : decode cX10_ending 0 = .ok (.iconst 0, 1) := by decide +kernel
theorem dX10_ending_1 : decode cX10_ending 1 = .ok (.istore_n 2, 1) := by decide +kernel
theorem dX10_ending_2 : decode cX10_ending 2 = .ok (.iload_n 2, 1) := by decide +kernel
theorem dX10_ending_3 : decode cX10_ending 3 = .ok (.sipush 144, 3) := by decide +kernel
theorem dX10_ending_6 : decode cX10_ending 6 = .ok (.if_icmp .ge 30, 3) := by decide +kernel
theorem dX10_ending_9 : decode cX10_ending 9 = .ok (.aload_n 0, 1) := by decide +kernel
theorem dX10_ending_10 : decode cX10_ending 10 = .ok (.iload_n 2, 1) := by decide +kernel
theorem dX10_ending_11 : decode cX10_ending 11 = .ok (.bipush 12, 2) := by decide +kernel
theorem dX10_ending_13 : decode cX10_ending 13 = .ok (.idiv, 1) := by decide +kernel
theorem dX10_ending_14 : decode cX10_ending 14 = .ok (.iload_n 2, 1) := by decide +kernel
theorem dX10_ending_15 : decode cX10_ending 15 = .ok (.bipush 12, 2) := by decide +kernel
theorem dX10_ending_17 : decode cX10_ending 17 = .ok (.irem, 1) := by decide +kernel
theorem dX10_ending_18 : decode cX10_ending 18 = .ok (.invokevirtual 261, 3) := by decide +kernel
theorem dX10_ending_21 : decode cX10_ending 21 = .ok (.ifCond .eq 9, 3) := by decide +kernel
theorem dX10_ending_24 : decode cX10_ending 24 = .ok (.sipush 6000, 3) := by decide +kernel
theorem dX10_ending_27 : decode cX10_ending 27 = .ok (.iload_n 2, 1) := by decide +kernel
theorem dX10_ending_28 : decode cX10_ending 28 = .ok (.iadd, 1) := by decide +kernel
theorem dX10_ending_29 : decode cX10_ending 29 = .ok (.ireturn, 1) := by decide +kernel
theorem dX10_ending_30 : decode cX10_ending 30 = .ok (.iinc 2 1, 3) := by decide +kernel
theorem dX10_ending_33 : decode cX10_ending 33 = .ok (.goto (-31), 3) := by decide +kernel
theorem dX10_ending_36 : decode cX10_ending 36 = .ok (.iconst 3, 1) := by decide +kernel
theorem dX10_ending_37 : decode cX10_ending 37 = .ok (.istore_n 2, 1) := by decide +kernel
theorem dX10_ending_38 : decode cX10_ending 38 = .ok (.iload_n 2, 1) := by decide +kernel
theorem dX10_ending_39 : decode cX10_ending 39 = .ok (.iconst 5, 1) := by decide +kernel
theorem dX10_ending_40 : decode cX10_ending 40 = .ok (.if_icmp .gt 47, 3) := by decide +kernel
theorem dX10_ending_43 : decode cX10_ending 43 = .ok (.iconst 0, 1) := by decide +kernel
theorem dX10_ending_44 : decode cX10_ending 44 = .ok (.istore_n 3, 1) := by decide +kernel
theorem dX10_ending_45 : decode cX10_ending 45 = .ok (.iload_n 3, 1) := by decide +kernel
theorem dX10_ending_46 : decode cX10_ending 46 = .ok (.aload_n 0, 1) := by decide +kernel
theorem dX10_ending_47 : decode cX10_ending 47 = .ok (.getfield 107, 3) := by decide +kernel
theorem dX10_ending_50 : decode cX10_ending 50 = .ok (.if_icmp .ge 31, 3) := by decide +kernel
theorem dX10_ending_53 : decode cX10_ending 53 = .ok (.aload_n 0, 1) := by decide +kernel
theorem dX10_ending_54 : decode cX10_ending 54 = .ok (.iload_n 2, 1) := by decide +kernel
theorem dX10_ending_55 : decode cX10_ending 55 = .ok (.iload_n 3, 1) := by decide +kernel
theorem dX10_ending_56 : decode cX10_ending 56 = .ok (.iconst 0, 1) := by decide +kernel
theorem dX10_ending_57 : decode cX10_ending 57 = .ok (.iload_n 1, 1) := by decide +kernel
theorem dX10_ending_58 : decode cX10_ending 58 = .ok (.invokevirtual 270, 3) := by decide +kernel
theorem dX10_ending_61 : decode cX10_ending 61 = .ok (.ifCond .eq 14, 3) := by decide +kernel
theorem dX10_ending_64 : decode cX10_ending 64 = .ok (.sipush 1000, 3) := by decide +kernel
theorem dX10_ending_67 : decode cX10_ending 67 = .ok (.iload_n 2, 1) := by decide +kernel
theorem dX10_ending_68 : decode cX10_ending 68 = .ok (.imul, 1) := by decide +kernel
theorem dX10_ending_69 : decode cX10_ending 69 = .ok (.bipush 12, 2) := by decide +kernel
theorem dX10_ending_71 : decode cX10_ending 71 = .ok (.iload_n 3, 1) := by decide +kernel
theorem dX10_ending_72 : decode cX10_ending 72 = .ok (.imul, 1) := by decide +kernel
theorem dX10_ending_73 : decode cX10_ending 73 = .ok (.iadd, 1) := by decide +kernel
theorem dX10_ending_74 : decode cX10_ending 74 = .ok (.ireturn, 1) := by decide +kernel
theorem dX10_ending_75 : decode cX10_ending 75 = .ok (.iinc 3 1, 3) := by decide +kernel
theorem dX10_ending_78 : decode cX10_ending 78 = .ok (.goto (-33), 3) := by decide +kernel
theorem dX10_ending_81 : decode cX10_ending 81 = .ok (.iinc 2 1, 3) := by decide +kernel
theorem dX10_ending_84 : decode cX10_ending 84 = .ok (.goto (-46), 3) := by decide +kernel
theorem dX10_ending_87 : decode cX10_ending 87 = .ok (.aload_n 0, 1) := by decide +kernel
theorem dX10_ending_88 : decode cX10_ending 88 = .ok (.invokevirtual 234, 3) := by decide +kernel
theorem dX10_ending_91 : decode cX10_ending 91 = .ok (.iload_n 1, 1) := by decide +kernel
theorem dX10_ending_92 : decode cX10_ending 92 = .ok (.i2l, 1) := by decide +kernel
theorem dX10_ending_93 : decode cX10_ending 93 = .ok (.lcmp, 1) := by decide +kernel
theorem dX10_ending_94 : decode cX10_ending 94 = .ok (.ifCond .lt 9, 3) := by decide +kernel
theorem dX10_ending_97 : decode cX10_ending 97 = .ok (.sipush 2000, 3) := by decide +kernel
theorem dX10_ending_100 : decode cX10_ending 100 = .ok (.goto 4, 3) := by decide +kernel
theorem dX10_ending_103 : decode cX10_ending 103 = .ok (.iconst 0, 1) := by decide +kernel
theorem dX10_ending_104 : decode cX10_ending 104 = .ok (.ireturn, 1) := by decide +kernel
set_option maxRecDepth 20000 in
theorem ggX10_freePair_X10_isPair : GoodIn wsX10_freePair wsX10_isPair := goodIn_r _ [6, 7, 8, 9, 5, 10, 11, 12, 13, 14, 15, 16, 33, 34, 35, 36, 37, 38, 39, 40, 41, 42, 43, 44, 45, 46, 47, 48, 49, 50, 51, 52, 53, 54, 55, 56, 57, 58, 59, 60, 61, 62, 63, 64, 65, 66, 67, 68] (by decide +kernel) (by decide +kernel)
set_option maxRecDepth 20000 in
theorem gX10_freePair_X10_isPair : GoodIn wsX10_freePair (wsV RX10 204 RX10 yX10_isPair wsX10_isPair) := goodIn_app (goodIn_of _ (by decide +kernel)) ggX10_freePair_X10_isPair
set_option maxRecDepth 20000 in
theorem ggX10_freePair_X10_hasWay : GoodIn wsX10_freePair wsX10_hasWay := goodIn_r _ [20, 21, 22, 23, 24, 5, 25, 26, 27, 33, 34, 35, 36, 37, 38, 39, 40, 41, 42, 43, 44, 45, 46, 47, 48, 49, 50, 51, 52, 53, 54, 55, 56, 57, 58, 59, 60, 61, 62, 63, 64, 65, 66, 67, 68] (by decide +kernel) (by decide +kernel)
set_option maxRecDepth 20000 in
theorem gX10_freePair_X10_hasWay : GoodIn wsX10_freePair (wsV RX10 207 RX10 yX10_hasWay wsX10_hasWay) := goodIn_app (goodIn_of _ (by decide +kernel)) ggX10_freePair_X10_hasWay
set_option maxRecDepth 20000 in
theorem ggX10_freePair_X10_priced : GoodIn wsX10_freePair wsX10_priced := goodIn_r _ [31, 32, 22, 23, 24, 5, 25, 26, 27, 33, 34, 35, 36, 37, 38, 39, 40, 41, 42, 43, 44, 45, 46, 47, 48, 49, 50, 51, 52, 53, 54, 55, 56, 57, 58, 59, 60, 61, 62, 63, 64, 65, 66, 67, 68] (by decide +kernel) (by decide +kernel)
set_option maxRecDepth 20000 in
theorem gX10_freePair_X10_priced : GoodIn wsX10_freePair (wsV RX10 197 RX10 yX10_priced wsX10_priced) := goodIn_app (goodIn_of _ (by decide +kernel)) ggX10_freePair_X10_priced
theorem dX10_freePair_0 : decode cX10_freePair 0 = .ok (.iconst (-1), 1) := by decide +kernel
theorem dX10_freePair_1 : decode cX10_freePair 1 = .ok (.istore_n 1, 1) := by decide +kernel
theorem dX10_freePair_2 : decode cX10_freePair 2 = .ok (.iconst 0, 1) := by decide +kernel
theorem dX10_freePair_3 : decode cX10_freePair 3 = .ok (.istore_n 2, 1) := by decide +kernel
theorem dX10_freePair_4 : decode cX10_freePair 4 = .ok (.iload_n 2, 1) := by decide +kernel
theorem dX10_freePair_5 : decode cX10_freePair 5 = .ok (.sipush 144, 3) := by decide +kernel
theorem dX10_freePair_8 : decode cX10_freePair 8 = .ok (.if_icmp .ge 101, 3) := by decide +kernel
theorem dX10_freePair_11 : decode cX10_freePair 11 = .ok (.aload_n 0, 1) := by decide +kernel
theorem dX10_freePair_12 : decode cX10_freePair 12 = .ok (.iload_n 2, 1) := by decide +kernel
theorem dX10_freePair_13 : decode cX10_freePair 13 = .ok (.invokevirtual 204, 3) := by decide +kernel
theorem dX10_freePair_16 : decode cX10_freePair 16 = .ok (.ifCond .eq 87, 3) := by decide +kernel
theorem dX10_freePair_19 : decode cX10_freePair 19 = .ok (.aload_n 0, 1) := by decide +kernel
theorem dX10_freePair_20 : decode cX10_freePair 20 = .ok (.getfield 72, 3) := by decide +kernel
theorem dX10_freePair_23 : decode cX10_freePair 23 = .ok (.iload_n 2, 1) := by decide +kernel
theorem dX10_freePair_24 : decode cX10_freePair 24 = .ok (.iaload, 1) := by decide +kernel
theorem dX10_freePair_25 : decode cX10_freePair 25 = .ok (.ifCond .ne 78, 3) := by decide +kernel
theorem dX10_freePair_28 : decode cX10_freePair 28 = .ok (.iload_n 1, 1) := by decide +kernel
theorem dX10_freePair_29 : decode cX10_freePair 29 = .ok (.ifCond .lt 16, 3) := by decide +kernel
theorem dX10_freePair_32 : decode cX10_freePair 32 = .ok (.aload_n 0, 1) := by decide +kernel
theorem dX10_freePair_33 : decode cX10_freePair 33 = .ok (.iload_n 2, 1) := by decide +kernel
theorem dX10_freePair_34 : decode cX10_freePair 34 = .ok (.invokevirtual 207, 3) := by decide +kernel
theorem dX10_freePair_37 : decode cX10_freePair 37 = .ok (.aload_n 0, 1) := by decide +kernel
theorem dX10_freePair_38 : decode cX10_freePair 38 = .ok (.iload_n 1, 1) := by decide +kernel
theorem dX10_freePair_39 : decode cX10_freePair 39 = .ok (.invokevirtual 207, 3) := by decide +kernel
theorem dX10_freePair_42 : decode cX10_freePair 42 = .ok (.if_icmp .eq 23, 3) := by decide +kernel
theorem dX10_freePair_45 : decode cX10_freePair 45 = .ok (.iload_n 1, 1) := by decide +kernel
theorem dX10_freePair_46 : decode cX10_freePair 46 = .ok (.ifCond .lt 11, 3) := by decide +kernel
theorem dX10_freePair_49 : decode cX10_freePair 49 = .ok (.aload_n 0, 1) := by decide +kernel
theorem dX10_freePair_50 : decode cX10_freePair 50 = .ok (.iload_n 2, 1) := by decide +kernel
theorem dX10_freePair_51 : decode cX10_freePair 51 = .ok (.invokevirtual 207, 3) := by decide +kernel
theorem dX10_freePair_54 : decode cX10_freePair 54 = .ok (.ifCond .eq 7, 3) := by decide +kernel
theorem dX10_freePair_57 : decode cX10_freePair 57 = .ok (.iconst 1, 1) := by decide +kernel
theorem dX10_freePair_58 : decode cX10_freePair 58 = .ok (.goto 34, 3) := by decide +kernel
theorem dX10_freePair_61 : decode cX10_freePair 61 = .ok (.iconst 0, 1) := by decide +kernel
theorem dX10_freePair_62 : decode cX10_freePair 62 = .ok (.goto 30, 3) := by decide +kernel
theorem dX10_freePair_65 : decode cX10_freePair 65 = .ok (.aload_n 0, 1) := by decide +kernel
theorem dX10_freePair_66 : decode cX10_freePair 66 = .ok (.iload_n 2, 1) := by decide +kernel
theorem dX10_freePair_67 : decode cX10_freePair 67 = .ok (.invokevirtual 207, 3) := by decide +kernel
theorem dX10_freePair_70 : decode cX10_freePair 70 = .ok (.ifCond .eq 21, 3) := by decide +kernel
theorem dX10_freePair_73 : decode cX10_freePair 73 = .ok (.aload_n 0, 1) := by decide +kernel
theorem dX10_freePair_74 : decode cX10_freePair 74 = .ok (.iload_n 2, 1) := by decide +kernel
theorem dX10_freePair_75 : decode cX10_freePair 75 = .ok (.invokevirtual 197, 3) := by decide +kernel
theorem dX10_freePair_78 : decode cX10_freePair 78 = .ok (.aload_n 0, 1) := by decide +kernel
theorem dX10_freePair_79 : decode cX10_freePair 79 = .ok (.iload_n 1, 1) := by decide +kernel
theorem dX10_freePair_80 : decode cX10_freePair 80 = .ok (.invokevirtual 197, 3) := by decide +kernel
theorem dX10_freePair_83 : decode cX10_freePair 83 = .ok (.lcmp, 1) := by decide +kernel
theorem dX10_freePair_84 : decode cX10_freePair 84 = .ok (.ifCond .ge 7, 3) := by decide +kernel
theorem dX10_freePair_87 : decode cX10_freePair 87 = .ok (.iconst 1, 1) := by decide +kernel
theorem dX10_freePair_88 : decode cX10_freePair 88 = .ok (.goto 4, 3) := by decide +kernel
theorem dX10_freePair_91 : decode cX10_freePair 91 = .ok (.iconst 0, 1) := by decide +kernel
theorem dX10_freePair_92 : decode cX10_freePair 92 = .ok (.istore_n 3, 1) := by decide +kernel
theorem dX10_freePair_93 : decode cX10_freePair 93 = .ok (.iload_n 3, 1) := by decide +kernel
theorem dX10_freePair_94 : decode cX10_freePair 94 = .ok (.ifCond .eq 7, 3) := by decide +kernel
theorem dX10_freePair_97 : decode cX10_freePair 97 = .ok (.iload_n 2, 1) := by decide +kernel
theorem dX10_freePair_98 : decode cX10_freePair 98 = .ok (.goto 4, 3) := by decide +kernel
theorem dX10_freePair_101 : decode cX10_freePair 101 = .ok (.iload_n 1, 1) := by decide +kernel
theorem dX10_freePair_102 : decode cX10_freePair 102 = .ok (.istore_n 1, 1) := by decide +kernel
theorem dX10_freePair_103 : decode cX10_freePair 103 = .ok (.iinc 2 1, 3) := by decide +kernel
theorem dX10_freePair_106 : decode cX10_freePair 106 = .ok (.goto (-102), 3) := by decide +kernel
theorem dX10_freePair_109 : decode cX10_freePair 109 = .ok (.iload_n 1, 1) := by decide +kernel
theorem dX10_freePair_110 : decode cX10_freePair 110 = .ok (.ireturn, 1) := by decide +kernel
set_option maxRecDepth 20000 in
theorem ggX10_prove_X10_lit : GoodIn wsX10_prove wsX10_lit := goodIn_r _ [14, 15, 16, 139, 140, 141, 142, 143, 144, 145, 146, 147, 148, 149, 150, 151, 152, 153, 154, 155, 156, 157, 158, 159, 160, 161, 162, 163, 164, 165, 166, 167, 168, 169, 170, 171, 172, 173, 174] (by decide +kernel) (by decide +kernel)
set_option maxRecDepth 20000 in
theorem gX10_prove_X10_lit : GoodIn wsX10_prove (wsV RX10 142 RX10 yX10_lit wsX10_lit) := goodIn_app (goodIn_of _ (by decide +kernel)) ggX10_prove_X10_lit
set_option maxRecDepth 20000 in
theorem ggX10_prove_X10_freeAll : GoodIn wsX10_prove wsX10_freeAll := goodIn_r _ [20, 21, 139, 140, 141, 142, 143, 144, 145, 146, 147, 148, 149, 150, 151, 152, 153, 154, 155, 156, 157, 158, 159, 160, 161, 162, 163, 164, 165, 166, 167, 168, 169, 170, 171, 172, 173, 174] (by decide +kernel) (by decide +kernel)
set_option maxRecDepth 20000 in
theorem gX10_prove_X10_freeAll : GoodIn wsX10_prove (wsV RX10 231 RX10 yX10_freeAll wsX10_freeAll) := goodIn_app (goodIn_of _ (by decide +kernel)) ggX10_prove_X10_freeAll
set_option maxRecDepth 20000 in
theorem ggX10_prove_X10_pushCase : GoodIn wsX10_prove wsX10_pushCase := goodIn_r _ [25, 26, 2, 21, 139, 140, 141, 142, 143, 144, 145, 146, 147, 148, 149, 150, 151, 152, 153, 154, 155, 156, 157, 158, 159, 160, 161, 162, 163, 164, 165, 166, 167, 168, 169, 170, 171, 172, 173, 174] (by decide +kernel) (by decide +kernel)
set_option maxRecDepth 20000 in
theorem gX10_prove_X10_pushCase : GoodIn wsX10_prove (wsV RX10 264 RX10 yX10_pushCase wsX10_pushCase) := goodIn_app (goodIn_of _ (by decide +kernel)) ggX10_prove_X10_pushCase
set_option maxRecDepth 20000 in
theorem ggX10_prove_X10_popCase : GoodIn wsX10_prove wsX10_popCase := goodIn_r _ [30, 2, 21, 26, 139, 140, 141, 142, 143, 144, 145, 146, 147, 148, 149, 150, 151, 152, 153, 154, 155, 156, 157, 158, 159, 160, 161, 162, 163, 164, 165, 166, 167, 168, 169, 170, 171, 172, 173, 174] (by decide +kernel) (by decide +kernel)
set_option maxRecDepth 20000 in
theorem gX10_prove_X10_popCase : GoodIn wsX10_prove (wsV RX10 274 RX10 yX10_popCase wsX10_popCase) := goodIn_app (goodIn_of _ (by decide +kernel)) ggX10_prove_X10_popCase
set_option maxRecDepth 20000 in
theorem ggX10_prove_X10_ending : GoodIn wsX10_prove wsX10_ending := goodIn_r _ [34, 15, 35, 36, 37, 13, 38, 21, 39, 40, 41, 42, 16, 43, 44, 45, 46, 47, 48, 49, 50, 51, 52, 53, 54, 55, 56, 57, 58, 59, 60, 61, 62, 63, 64, 65, 66, 67, 68, 69, 70, 71, 72, 73, 74, 75, 76, 77, 78, 79, 80, 81, 82, 83, 84, 85, 86, 87, 88, 89, 90, 91, 92, 93, 94, 95, 96, 97, 98, 99, 100, 101, 102, 103, 104, 105, 106, 107, 108, 109, 110, 111, 112, 113, 114, 115, 116, 117, 118, 119, 120, 121, 122, 123, 124, 125, 126, 139, 140, 141, 142, 143, 144, 145, 146, 147, 148, 149, 150, 151, 152, 153, 154, 155, 156, 157, 158, 159, 160, 161, 162, 163, 164, 165, 166, 167, 168, 169, 170, 171, 172, 173, 174] (by decide +kernel) (by decide +kernel)
set_option maxRecDepth 20000 in
theorem gX10_prove_X10_ending : GoodIn wsX10_prove (wsV RX10 277 RX10 yX10_ending wsX10_ending) := goodIn_app (goodIn_of _ (by decide +kernel)) ggX10_prove_X10_ending
set_option maxRecDepth 20000 in
theorem ggX10_prove_X10_freePair : GoodIn wsX10_prove wsX10_freePair := goodIn_r _ [130, 21, 90, 91, 92, 13, 93, 39, 40, 41, 42, 16, 43, 44, 45, 46, 15, 94, 95, 96, 97, 53, 54, 55, 56, 57, 58, 59, 102, 103, 104, 105, 80, 139, 140, 141, 142, 143, 144, 145, 146, 147, 148, 149, 150, 151, 152, 153, 154, 155, 156, 157, 158, 159, 160, 161, 162, 163, 164, 165, 166, 167, 168, 169, 170, 171, 172, 173, 174] (by decide +kernel) (by decide +kernel)
set_option maxRecDepth 20000 in
theorem gX10_prove_X10_freePair : GoodIn wsX10_prove (wsV RX10 280 RX10 yX10_freePair wsX10_freePair) := goodIn_app (goodIn_of _ (by decide +kernel)) ggX10_prove_X10_freePair
set_option maxRecDepth 20000 in
theorem ggX10_prove_X10_write_ : GoodIn wsX10_prove wsX10_write_ := goodIn_r _ [134, 1, 5, 7, 9, 139, 140, 141, 142, 143, 144, 145, 146, 147, 148, 149, 150, 151, 152, 153, 154, 155, 156, 157, 158, 159, 160, 161, 162, 163, 164, 165, 166, 167, 168, 169, 170, 171, 172, 173, 174] (by decide +kernel) (by decide +kernel)
set_option maxRecDepth 20000 in
theorem gX10_prove_X10_write_ : GoodIn wsX10_prove (wsV RX10 283 RX10 yX10_write_ wsX10_write_) := goodIn_app (goodIn_of _ (by decide +kernel)) ggX10_prove_X10_write_
set_option maxRecDepth 20000 in
theorem ggX10_prove_X10_part : GoodIn wsX10_prove wsX10_part := goodIn_r _ [138, 21, 60, 61, 13, 62, 22, 23, 24, 25, 26, 2, 139, 140, 141, 142, 143, 144, 145, 146, 147, 148, 149, 150, 151, 152, 153, 154, 155, 156, 157, 158, 159, 160, 161, 162, 163, 164, 165, 166, 167, 168, 169, 170, 171, 172, 173, 174] (by decide +kernel) (by decide +kernel)
set_option maxRecDepth 20000 in
theorem gX10_prove_X10_part : GoodIn wsX10_prove (wsV RX10 286 RX10 yX10_part wsX10_part) := goodIn_app (goodIn_of _ (by decide +kernel)) ggX10_prove_X10_part
theorem dX10_prove_0 : decode cX10_prove 0 = .ok (.iload_n 1, 1) := by decide +kernel
theorem dX10_prove_1 : decode cX10_prove 1 = .ok (.ifCond .ge 5, 3) := by decide +kernel
theorem dX10_prove_4 : decode cX10_prove 4 = .ok (.iconst (-1), 1) := by decide +kernel
theorem dX10_prove_5 : decode cX10_prove 5 = .ok (.ireturn, 1) := by decide +kernel
theorem dX10_prove_6 : decode cX10_prove 6 = .ok (.aload_n 0, 1) := by decide +kernel
theorem dX10_prove_7 : decode cX10_prove 7 = .ok (.invokevirtual 142, 3) := by decide +kernel
theorem dX10_prove_10 : decode cX10_prove 10 = .ok (.iconst 3, 1) := by decide +kernel
theorem dX10_prove_11 : decode cX10_prove 11 = .ok (.if_icmp .ge 6, 3) := by decide +kernel
theorem dX10_prove_14 : decode cX10_prove 14 = .ok (.bipush (-4), 2) := by decide +kernel
theorem dX10_prove_16 : decode cX10_prove 16 = .ok (.ireturn, 1) := by decide +kernel
theorem dX10_prove_17 : decode cX10_prove 17 = .ok (.aload_n 0, 1) := by decide +kernel
theorem dX10_prove_18 : decode cX10_prove 18 = .ok (.iconst 0, 1) := by decide +kernel
theorem dX10_prove_19 : decode cX10_prove 19 = .ok (.putfield 267, 3) := by decide +kernel
theorem dX10_prove_22 : decode cX10_prove 22 = .ok (.aload_n 0, 1) := by decide +kernel
theorem dX10_prove_23 : decode cX10_prove 23 = .ok (.iconst 0, 1) := by decide +kernel
theorem dX10_prove_24 : decode cX10_prove 24 = .ok (.putfield 240, 3) := by decide +kernel
theorem dX10_prove_27 : decode cX10_prove 27 = .ok (.aload_n 0, 1) := by decide +kernel
theorem dX10_prove_28 : decode cX10_prove 28 = .ok (.invokevirtual 231, 3) := by decide +kernel
theorem dX10_prove_31 : decode cX10_prove 31 = .ok (.aload_n 0, 1) := by decide +kernel
theorem dX10_prove_32 : decode cX10_prove 32 = .ok (.invokevirtual 264, 3) := by decide +kernel
theorem dX10_prove_35 : decode cX10_prove 35 = .ok (.aload_n 0, 1) := by decide +kernel
theorem dX10_prove_36 : decode cX10_prove 36 = .ok (.getfield 240, 3) := by decide +kernel
theorem dX10_prove_39 : decode cX10_prove 39 = .ok (.ifCond .le 84, 3) := by decide +kernel
theorem dX10_prove_42 : decode cX10_prove 42 = .ok (.aload_n 0, 1) := by decide +kernel
theorem dX10_prove_43 : decode cX10_prove 43 = .ok (.invokevirtual 274, 3) := by decide +kernel
theorem dX10_prove_46 : decode cX10_prove 46 = .ok (.aload_n 0, 1) := by decide +kernel
theorem dX10_prove_47 : decode cX10_prove 47 = .ok (.iload_n 1, 1) := by decide +kernel
theorem dX10_prove_48 : decode cX10_prove 48 = .ok (.invokevirtual 277, 3) := by decide +kernel
theorem dX10_prove_51 : decode cX10_prove 51 = .ok (.istore_n 2, 1) := by decide +kernel
theorem dX10_prove_52 : decode cX10_prove 52 = .ok (.iload_n 2, 1) := by decide +kernel
theorem dX10_prove_53 : decode cX10_prove 53 = .ok (.ifCond .eq 11, 3) := by decide +kernel
theorem dX10_prove_56 : decode cX10_prove 56 = .ok (.iload_n 2, 1) := by decide +kernel
theorem dX10_prove_57 : decode cX10_prove 57 = .ok (.sipush 1000, 3) := by decide +kernel
theorem dX10_prove_60 : decode cX10_prove 60 = .ok (.irem, 1) := by decide +kernel
theorem dX10_prove_61 : decode cX10_prove 61 = .ok (.goto 7, 3) := by decide +kernel
theorem dX10_prove_64 : decode cX10_prove 64 = .ok (.aload_n 0, 1) := by decide +kernel
theorem dX10_prove_65 : decode cX10_prove 65 = .ok (.invokevirtual 280, 3) := by decide +kernel
theorem dX10_prove_68 : decode cX10_prove 68 = .ok (.istore_n 3, 1) := by decide +kernel
theorem dX10_prove_69 : decode cX10_prove 69 = .ok (.iload_n 3, 1) := by decide +kernel
theorem dX10_prove_70 : decode cX10_prove 70 = .ok (.ifCond .lt 31, 3) := by decide +kernel
theorem dX10_prove_73 : decode cX10_prove 73 = .ok (.aload_n 0, 1) := by decide +kernel
theorem dX10_prove_74 : decode cX10_prove 74 = .ok (.iload_n 2, 1) := by decide +kernel
theorem dX10_prove_75 : decode cX10_prove 75 = .ok (.ifCond .ne 7, 3) := by decide +kernel
theorem dX10_prove_78 : decode cX10_prove 78 = .ok (.iconst 1, 1) := by decide +kernel
theorem dX10_prove_79 : decode cX10_prove 79 = .ok (.goto 8, 3) := by decide +kernel
theorem dX10_prove_82 : decode cX10_prove 82 = .ok (.iload_n 2, 1) := by decide +kernel
theorem dX10_prove_83 : decode cX10_prove 83 = .ok (.sipush 1000, 3) := by decide +kernel
theorem dX10_prove_86 : decode cX10_prove 86 = .ok (.idiv, 1) := by decide +kernel
theorem dX10_prove_87 : decode cX10_prove 87 = .ok (.iload_n 3, 1) := by decide +kernel
theorem dX10_prove_88 : decode cX10_prove 88 = .ok (.bipush 12, 2) := by decide +kernel
theorem dX10_prove_90 : decode cX10_prove 90 = .ok (.idiv, 1) := by decide +kernel
theorem dX10_prove_91 : decode cX10_prove 91 = .ok (.iload_n 3, 1) := by decide +kernel
theorem dX10_prove_92 : decode cX10_prove 92 = .ok (.bipush 12, 2) := by decide +kernel
theorem dX10_prove_94 : decode cX10_prove 94 = .ok (.irem, 1) := by decide +kernel
theorem dX10_prove_95 : decode cX10_prove 95 = .ok (.invokevirtual 283, 3) := by decide +kernel
theorem dX10_prove_98 : decode cX10_prove 98 = .ok (.ifCond .ne 6, 3) := by decide +kernel
theorem dX10_prove_101 : decode cX10_prove 101 = .ok (.bipush (-9), 2) := by decide +kernel
theorem dX10_prove_103 : decode cX10_prove 103 = .ok (.ireturn, 1) := by decide +kernel
theorem dX10_prove_104 : decode cX10_prove 104 = .ok (.iload_n 2, 1) := by decide +kernel
theorem dX10_prove_105 : decode cX10_prove 105 = .ok (.ifCond .ne 15, 3) := by decide +kernel
theorem dX10_prove_108 : decode cX10_prove 108 = .ok (.aload_n 0, 1) := by decide +kernel
theorem dX10_prove_109 : decode cX10_prove 109 = .ok (.iload_n 3, 1) := by decide +kernel
theorem dX10_prove_110 : decode cX10_prove 110 = .ok (.bipush 12, 2) := by decide +kernel
theorem dX10_prove_112 : decode cX10_prove 112 = .ok (.idiv, 1) := by decide +kernel
theorem dX10_prove_113 : decode cX10_prove 113 = .ok (.iload_n 3, 1) := by decide +kernel
theorem dX10_prove_114 : decode cX10_prove 114 = .ok (.bipush 12, 2) := by decide +kernel
theorem dX10_prove_116 : decode cX10_prove 116 = .ok (.irem, 1) := by decide +kernel
theorem dX10_prove_117 : decode cX10_prove 117 = .ok (.invokevirtual 286, 3) := by decide +kernel
theorem dX10_prove_120 : decode cX10_prove 120 = .ok (.goto (-85), 3) := by decide +kernel
theorem dX10_prove_123 : decode cX10_prove 123 = .ok (.aload_n 0, 1) := by decide +kernel
theorem dX10_prove_124 : decode cX10_prove 124 = .ok (.aload_n 0, 1) := by decide +kernel
theorem dX10_prove_125 : decode cX10_prove 125 = .ok (.getfield 267, 3) := by decide +kernel
theorem dX10_prove_128 : decode cX10_prove 128 = .ok (.putfield 146, 3) := by decide +kernel
theorem dX10_prove_131 : decode cX10_prove 131 = .ok (.iconst 0, 1) := by decide +kernel
theorem dX10_prove_132 : decode cX10_prove 132 = .ok (.istore_n 2, 1) := by decide +kernel
theorem dX10_prove_133 : decode cX10_prove 133 = .ok (.iload_n 2, 1) := by decide +kernel
theorem dX10_prove_134 : decode cX10_prove 134 = .ok (.aload_n 0, 1) := by decide +kernel
theorem dX10_prove_135 : decode cX10_prove 135 = .ok (.getfield 267, 3) := by decide +kernel
theorem dX10_prove_138 : decode cX10_prove 138 = .ok (.if_icmp .ge 45, 3) := by decide +kernel
theorem dX10_prove_141 : decode cX10_prove 141 = .ok (.aload_n 0, 1) := by decide +kernel
theorem dX10_prove_142 : decode cX10_prove 142 = .ok (.getfield 54, 3) := by decide +kernel
theorem dX10_prove_145 : decode cX10_prove 145 = .ok (.iload_n 2, 1) := by decide +kernel
theorem dX10_prove_146 : decode cX10_prove 146 = .ok (.aload_n 0, 1) := by decide +kernel
theorem dX10_prove_147 : decode cX10_prove 147 = .ok (.getfield 90, 3) := by decide +kernel
theorem dX10_prove_150 : decode cX10_prove 150 = .ok (.iload_n 2, 1) := by decide +kernel
theorem dX10_prove_151 : decode cX10_prove 151 = .ok (.iaload, 1) := by decide +kernel
theorem dX10_prove_152 : decode cX10_prove 152 = .ok (.iastore, 1) := by decide +kernel
theorem dX10_prove_153 : decode cX10_prove 153 = .ok (.aload_n 0, 1) := by decide +kernel
theorem dX10_prove_154 : decode cX10_prove 154 = .ok (.getfield 57, 3) := by decide +kernel
theorem dX10_prove_157 : decode cX10_prove 157 = .ok (.iload_n 2, 1) := by decide +kernel
theorem dX10_prove_158 : decode cX10_prove 158 = .ok (.aload_n 0, 1) := by decide +kernel
theorem dX10_prove_159 : decode cX10_prove 159 = .ok (.getfield 93, 3) := by decide +kernel
theorem dX10_prove_162 : decode cX10_prove 162 = .ok (.iload_n 2, 1) := by decide +kernel
theorem dX10_prove_163 : decode cX10_prove 163 = .ok (.iaload, 1) := by decide +kernel
theorem dX10_prove_164 : decode cX10_prove 164 = .ok (.iastore, 1) := by decide +kernel
theorem dX10_prove_165 : decode cX10_prove 165 = .ok (.aload_n 0, 1) := by decide +kernel
theorem dX10_prove_166 : decode cX10_prove 166 = .ok (.getfield 60, 3) := by decide +kernel
theorem dX10_prove_169 : decode cX10_prove 169 = .ok (.iload_n 2, 1) := by decide +kernel
theorem dX10_prove_170 : decode cX10_prove 170 = .ok (.aload_n 0, 1) := by decide +kernel
theorem dX10_prove_171 : decode cX10_prove 171 = .ok (.getfield 96, 3) := by decide +kernel
theorem dX10_prove_174 : decode cX10_prove 174 = .ok (.iload_n 2, 1) := by decide +kernel
theorem dX10_prove_175 : decode cX10_prove 175 = .ok (.iaload, 1) := by decide +kernel
theorem dX10_prove_176 : decode cX10_prove 176 = .ok (.iastore, 1) := by decide +kernel
theorem dX10_prove_177 : decode cX10_prove 177 = .ok (.iinc 2 1, 3) := by decide +kernel
theorem dX10_prove_180 : decode cX10_prove 180 = .ok (.goto (-47), 3) := by decide +kernel
theorem dX10_prove_183 : decode cX10_prove 183 = .ok (.aload_n 0, 1) := by decide +kernel
theorem dX10_prove_184 : decode cX10_prove 184 = .ok (.getfield 146, 3) := by decide +kernel
theorem dX10_prove_187 : decode cX10_prove 187 = .ok (.ireturn, 1) := by decide +kernel
set_option maxRecDepth 20000 in
theorem ggX10_line_X10_alter : GoodIn wsX10_line wsX10_alter := goodIn_r _ [6, 1, 7, 8, 9, 10, 11, 12, 13, 14, 15, 16, 17, 18, 19, 20, 21, 22, 23, 24, 25, 26, 27, 28, 29, 30, 31, 32, 33, 34, 35, 36, 37, 38, 39, 40, 41, 42, 43, 44, 45] (by decide +kernel) (by decide +kernel)
set_option maxRecDepth 20000 in
theorem gX10_line_X10_alter : GoodIn wsX10_line (wsV RX10 289 RX10 yX10_alter wsX10_alter) := goodIn_app (goodIn_of _ (by decide +kernel)) ggX10_line_X10_alter
theorem dX10_line_0 : decode cX10_line 0 = .ok (.iload_n 1, 1) := by decide +kernel
theorem dX10_line_1 : decode cX10_line 1 = .ok (.iconst 1, 1) := by decide +kernel
theorem dX10_line_2 : decode cX10_line 2 = .ok (.if_icmp .lt 9, 3) := by decide +kernel
theorem dX10_line_5 : decode cX10_line 5 = .ok (.iload_n 1, 1) := by decide +kernel
theorem dX10_line_6 : decode cX10_line 6 = .ok (.bipush 6, 2) := by decide +kernel
theorem dX10_line_8 : decode cX10_line 8 = .ok (.if_icmp .le 5, 3) := by decide +kernel
theorem dX10_line_11 : decode cX10_line 11 = .ok (.iconst (-1), 1) := by decide +kernel
theorem dX10_line_12 : decode cX10_line 12 = .ok (.ireturn, 1) := by decide +kernel
theorem dX10_line_13 : decode cX10_line 13 = .ok (.aload_n 0, 1) := by decide +kernel
theorem dX10_line_14 : decode cX10_line 14 = .ok (.getfield 146, 3) := by decide +kernel
theorem dX10_line_17 : decode cX10_line 17 = .ok (.sipush 400, 3) := by decide +kernel
theorem dX10_line_20 : decode cX10_line 20 = .ok (.if_icmp .ne 6, 3) := by decide +kernel
theorem dX10_line_23 : decode cX10_line 23 = .ok (.bipush (-2), 2) := by decide +kernel
theorem dX10_line_25 : decode cX10_line 25 = .ok (.ireturn, 1) := by decide +kernel
theorem dX10_line_26 : decode cX10_line 26 = .ok (.aload_n 0, 1) := by decide +kernel
theorem dX10_line_27 : decode cX10_line 27 = .ok (.dup, 1) := by decide +kernel
theorem dX10_line_28 : decode cX10_line 28 = .ok (.getfield 146, 3) := by decide +kernel
theorem dX10_line_31 : decode cX10_line 31 = .ok (.iconst 1, 1) := by decide +kernel
theorem dX10_line_32 : decode cX10_line 32 = .ok (.iadd, 1) := by decide +kernel
theorem dX10_line_33 : decode cX10_line 33 = .ok (.putfield 146, 3) := by decide +kernel
theorem dX10_line_36 : decode cX10_line 36 = .ok (.aload_n 0, 1) := by decide +kernel
theorem dX10_line_37 : decode cX10_line 37 = .ok (.aload_n 0, 1) := by decide +kernel
theorem dX10_line_38 : decode cX10_line 38 = .ok (.getfield 146, 3) := by decide +kernel
theorem dX10_line_41 : decode cX10_line 41 = .ok (.iconst 1, 1) := by decide +kernel
theorem dX10_line_42 : decode cX10_line 42 = .ok (.isub, 1) := by decide +kernel
theorem dX10_line_43 : decode cX10_line 43 = .ok (.iload_n 1, 1) := by decide +kernel
theorem dX10_line_44 : decode cX10_line 44 = .ok (.iload_n 2, 1) := by decide +kernel
theorem dX10_line_45 : decode cX10_line 45 = .ok (.iload_n 3, 1) := by decide +kernel
theorem dX10_line_46 : decode cX10_line 46 = .ok (.invokevirtual 289, 3) := by decide +kernel
theorem dX10_line_49 : decode cX10_line 49 = .ok (.iconst 1, 1) := by decide +kernel
theorem dX10_line_50 : decode cX10_line 50 = .ok (.if_icmp .ne 10, 3) := by decide +kernel
theorem dX10_line_53 : decode cX10_line 53 = .ok (.aload_n 0, 1) := by decide +kernel
theorem dX10_line_54 : decode cX10_line 54 = .ok (.getfield 146, 3) := by decide +kernel
theorem dX10_line_57 : decode cX10_line 57 = .ok (.goto 4, 3) := by decide +kernel
theorem dX10_line_60 : decode cX10_line 60 = .ok (.iconst (-1), 1) := by decide +kernel
theorem dX10_line_61 : decode cX10_line 61 = .ok (.ireturn, 1) := by decide +kernel
theorem dX10_alter_0 : decode cX10_alter 0 = .ok (.iload_n 1, 1) := by decide +kernel
theorem dX10_alter_1 : decode cX10_alter 1 = .ok (.ifCond .lt 22, 3) := by decide +kernel
theorem dX10_alter_4 : decode cX10_alter 4 = .ok (.iload_n 1, 1) := by decide +kernel
theorem dX10_alter_5 : decode cX10_alter 5 = .ok (.aload_n 0, 1) := by decide +kernel
theorem dX10_alter_6 : decode cX10_alter 6 = .ok (.getfield 146, 3) := by decide +kernel
theorem dX10_alter_9 : decode cX10_alter 9 = .ok (.if_icmp .ge 14, 3) := by decide +kernel
theorem dX10_alter_12 : decode cX10_alter 12 = .ok (.iload_n 2, 1) := by decide +kernel
theorem dX10_alter_13 : decode cX10_alter 13 = .ok (.iconst 1, 1) := by decide +kernel
theorem dX10_alter_14 : decode cX10_alter 14 = .ok (.if_icmp .lt 9, 3) := by decide +kernel
theorem dX10_alter_17 : decode cX10_alter 17 = .ok (.iload_n 2, 1) := by decide +kernel
theorem dX10_alter_18 : decode cX10_alter 18 = .ok (.bipush 6, 2) := by decide +kernel
theorem dX10_alter_20 : decode cX10_alter 20 = .ok (.if_icmp .le 5, 3) := by decide +kernel
theorem dX10_alter_23 : decode cX10_alter 23 = .ok (.iconst (-1), 1) := by decide +kernel
theorem dX10_alter_24 : decode cX10_alter 24 = .ok (.ireturn, 1) := by decide +kernel
theorem dX10_alter_25 : decode cX10_alter 25 = .ok (.aload_n 0, 1) := by decide +kernel
theorem dX10_alter_26 : decode cX10_alter 26 = .ok (.getfield 54, 3) := by decide +kernel
theorem dX10_alter_29 : decode cX10_alter 29 = .ok (.iload_n 1, 1) := by decide +kernel
theorem dX10_alter_30 : decode cX10_alter 30 = .ok (.iload_n 2, 1) := by decide +kernel
theorem dX10_alter_31 : decode cX10_alter 31 = .ok (.iastore, 1) := by decide +kernel
theorem dX10_alter_32 : decode cX10_alter 32 = .ok (.aload_n 0, 1) := by decide +kernel
theorem dX10_alter_33 : decode cX10_alter 33 = .ok (.getfield 57, 3) := by decide +kernel
theorem dX10_alter_36 : decode cX10_alter 36 = .ok (.iload_n 1, 1) := by decide +kernel
theorem dX10_alter_37 : decode cX10_alter 37 = .ok (.iload_n 3, 1) := by decide +kernel
theorem dX10_alter_38 : decode cX10_alter 38 = .ok (.iastore, 1) := by decide +kernel
theorem dX10_alter_39 : decode cX10_alter 39 = .ok (.aload_n 0, 1) := by decide +kernel
theorem dX10_alter_40 : decode cX10_alter 40 = .ok (.getfield 60, 3) := by decide +kernel
theorem dX10_alter_43 : decode cX10_alter 43 = .ok (.iload_n 1, 1) := by decide +kernel
theorem dX10_alter_44 : decode cX10_alter 44 = .ok (.iload 4, 2) := by decide +kernel
theorem dX10_alter_46 : decode cX10_alter 46 = .ok (.iastore, 1) := by decide +kernel
theorem dX10_alter_47 : decode cX10_alter 47 = .ok (.iconst 1, 1) := by decide +kernel
theorem dX10_alter_48 : decode cX10_alter 48 = .ok (.ireturn, 1) := by decide +kernel
theorem dX10_cut_0 : decode cX10_cut 0 = .ok (.iload_n 1, 1) := by decide +kernel
theorem dX10_cut_1 : decode cX10_cut 1 = .ok (.ifCond .lt 11, 3) := by decide +kernel
theorem dX10_cut_4 : decode cX10_cut 4 = .ok (.iload_n 1, 1) := by decide +kernel
theorem dX10_cut_5 : decode cX10_cut 5 = .ok (.aload_n 0, 1) := by decide +kernel
theorem dX10_cut_6 : decode cX10_cut 6 = .ok (.getfield 146, 3) := by decide +kernel
theorem dX10_cut_9 : decode cX10_cut 9 = .ok (.if_icmp .le 5, 3) := by decide +kernel
theorem dX10_cut_12 : decode cX10_cut 12 = .ok (.iconst (-1), 1) := by decide +kernel
theorem dX10_cut_13 : decode cX10_cut 13 = .ok (.ireturn, 1) := by decide +kernel
theorem dX10_cut_14 : decode cX10_cut 14 = .ok (.aload_n 0, 1) := by decide +kernel
theorem dX10_cut_15 : decode cX10_cut 15 = .ok (.iload_n 1, 1) := by decide +kernel
theorem dX10_cut_16 : decode cX10_cut 16 = .ok (.putfield 146, 3) := by decide +kernel
theorem dX10_cut_19 : decode cX10_cut 19 = .ok (.iload_n 1, 1) := by decide +kernel
theorem dX10_cut_20 : decode cX10_cut 20 = .ok (.ireturn, 1) := by decide +kernel
theorem dX10_shown_0 : decode cX10_shown 0 = .ok (.iload_n 1, 1) := by decide +kernel
theorem dX10_shown_1 : decode cX10_shown 1 = .ok (.ifCond .lt 20, 3) := by decide +kernel
theorem dX10_shown_4 : decode cX10_shown 4 = .ok (.iload_n 1, 1) := by decide +kernel
theorem dX10_shown_5 : decode cX10_shown 5 = .ok (.aload_n 0, 1) := by decide +kernel
theorem dX10_shown_6 : decode cX10_shown 6 = .ok (.getfield 146, 3) := by decide +kernel
theorem dX10_shown_9 : decode cX10_shown 9 = .ok (.if_icmp .ge 12, 3) := by decide +kernel
theorem dX10_shown_12 : decode cX10_shown 12 = .ok (.iload_n 2, 1) := by decide +kernel
theorem dX10_shown_13 : decode cX10_shown 13 = .ok (.ifCond .lt 8, 3) := by decide +kernel
theorem dX10_shown_16 : decode cX10_shown 16 = .ok (.iload_n 2, 1) := by decide +kernel
theorem dX10_shown_17 : decode cX10_shown 17 = .ok (.iconst 2, 1) := by decide +kernel
theorem dX10_shown_18 : decode cX10_shown 18 = .ok (.if_icmp .le 6, 3) := by decide +kernel
theorem dX10_shown_21 : decode cX10_shown 21 = .ok (.ldc 141, 2) := by decide +kernel
theorem dX10_shown_23 : decode cX10_shown 23 = .ok (.ireturn, 1) := by decide +kernel
theorem dX10_shown_24 : decode cX10_shown 24 = .ok (.iload_n 2, 1) := by decide +kernel
theorem dX10_shown_25 : decode cX10_shown 25 = .ok (.ifCond .ne 12, 3) := by decide +kernel
theorem dX10_shown_28 : decode cX10_shown 28 = .ok (.aload_n 0, 1) := by decide +kernel
theorem dX10_shown_29 : decode cX10_shown 29 = .ok (.getfield 54, 3) := by decide +kernel
theorem dX10_shown_32 : decode cX10_shown 32 = .ok (.iload_n 1, 1) := by decide +kernel
theorem dX10_shown_33 : decode cX10_shown 33 = .ok (.iaload, 1) := by decide +kernel
theorem dX10_shown_34 : decode cX10_shown 34 = .ok (.goto 23, 3) := by decide +kernel
theorem dX10_shown_37 : decode cX10_shown 37 = .ok (.iload_n 2, 1) := by decide +kernel
theorem dX10_shown_38 : decode cX10_shown 38 = .ok (.iconst 1, 1) := by decide +kernel
theorem dX10_shown_39 : decode cX10_shown 39 = .ok (.if_icmp .ne 12, 3) := by decide +kernel
theorem dX10_shown_42 : decode cX10_shown 42 = .ok (.aload_n 0, 1) := by decide +kernel
theorem dX10_shown_43 : decode cX10_shown 43 = .ok (.getfield 57, 3) := by decide +kernel
theorem dX10_shown_46 : decode cX10_shown 46 = .ok (.iload_n 1, 1) := by decide +kernel
theorem dX10_shown_47 : decode cX10_shown 47 = .ok (.iaload, 1) := by decide +kernel
theorem dX10_shown_48 : decode cX10_shown 48 = .ok (.goto 9, 3) := by decide +kernel
theorem dX10_shown_51 : decode cX10_shown 51 = .ok (.aload_n 0, 1) := by decide +kernel
theorem dX10_shown_52 : decode cX10_shown 52 = .ok (.getfield 60, 3) := by decide +kernel
theorem dX10_shown_55 : decode cX10_shown 55 = .ok (.iload_n 1, 1) := by decide +kernel
theorem dX10_shown_56 : decode cX10_shown 56 = .ok (.iaload, 1) := by decide +kernel
theorem dX10_shown_57 : decode cX10_shown 57 = .ok (.ireturn, 1) := by decide +kernel
set_option maxRecDepth 20000 in
theorem ggX10_check_X10_lit : GoodIn wsX10_check wsX10_lit := goodIn_r _ [10, 11, 12, 123, 124, 125, 126, 127, 128, 129, 130, 131, 132, 133, 134, 135, 136, 137, 138, 139, 140, 141, 142, 143, 144, 145, 146, 147, 148, 149, 150, 151, 152, 153, 154, 155, 156, 157, 158] (by decide +kernel) (by decide +kernel)
set_option maxRecDepth 20000 in
theorem gX10_check_X10_lit : GoodIn wsX10_check (wsV RX10 142 RX10 yX10_lit wsX10_lit) := goodIn_app (goodIn_of _ (by decide +kernel)) ggX10_check_X10_lit
set_option maxRecDepth 20000 in
theorem ggX10_check_X10_freeAll : GoodIn wsX10_check wsX10_freeAll := goodIn_r _ [16, 17, 123, 124, 125, 126, 127, 128, 129, 130, 131, 132, 133, 134, 135, 136, 137, 138, 139, 140, 141, 142, 143, 144, 145, 146, 147, 148, 149, 150, 151, 152, 153, 154, 155, 156, 157, 158] (by decide +kernel) (by decide +kernel)
set_option maxRecDepth 20000 in
theorem gX10_check_X10_freeAll : GoodIn wsX10_check (wsV RX10 231 RX10 yX10_freeAll wsX10_freeAll) := goodIn_app (goodIn_of _ (by decide +kernel)) ggX10_check_X10_freeAll
set_option maxRecDepth 20000 in
theorem ggX10_check_X10_pushCase : GoodIn wsX10_check wsX10_pushCase := goodIn_r _ [21, 22, 1, 17, 123, 124, 125, 126, 127, 128, 129, 130, 131, 132, 133, 134, 135, 136, 137, 138, 139, 140, 141, 142, 143, 144, 145, 146, 147, 148, 149, 150, 151, 152, 153, 154, 155, 156, 157, 158] (by decide +kernel) (by decide +kernel)
set_option maxRecDepth 20000 in
theorem gX10_check_X10_pushCase : GoodIn wsX10_check (wsV RX10 264 RX10 yX10_pushCase wsX10_pushCase) := goodIn_app (goodIn_of _ (by decide +kernel)) ggX10_check_X10_pushCase
set_option maxRecDepth 20000 in
theorem ggX10_check_X10_popCase : GoodIn wsX10_check wsX10_popCase := goodIn_r _ [26, 1, 17, 22, 123, 124, 125, 126, 127, 128, 129, 130, 131, 132, 133, 134, 135, 136, 137, 138, 139, 140, 141, 142, 143, 144, 145, 146, 147, 148, 149, 150, 151, 152, 153, 154, 155, 156, 157, 158] (by decide +kernel) (by decide +kernel)
set_option maxRecDepth 20000 in
theorem gX10_check_X10_popCase : GoodIn wsX10_check (wsV RX10 274 RX10 yX10_popCase wsX10_popCase) := goodIn_app (goodIn_of _ (by decide +kernel)) ggX10_check_X10_popCase
set_option maxRecDepth 20000 in
theorem ggX10_check_X10_stands : GoodIn wsX10_check wsX10_stands := goodIn_r _ [30, 31, 32, 33, 9, 34, 17, 35, 36, 37, 38, 12, 39, 40, 41, 42, 11, 43, 44, 45, 46, 47, 48, 49, 50, 51, 52, 53, 54, 55, 56, 57, 58, 59, 60, 61, 62, 63, 64, 65, 66, 67, 68, 69, 70, 71, 72, 73, 74, 75, 76, 77, 78, 79, 80, 81, 82, 83, 84, 85, 86, 87, 88, 89, 90, 91, 92, 93, 94, 95, 96, 97, 98, 99, 100, 101, 102, 103, 104, 105, 106, 107, 108, 109, 110, 111, 112, 113, 114, 115, 116, 117, 118, 123, 124, 125, 126, 127, 128, 129, 130, 131, 132, 133, 134, 135, 136, 137, 138, 139, 140, 141, 142, 143, 144, 145, 146, 147, 148, 149, 150, 151, 152, 153, 154, 155, 156, 157, 158] (by decide +kernel) (by decide +kernel)
set_option maxRecDepth 20000 in
theorem gX10_check_X10_stands : GoodIn wsX10_check (wsV RX10 270 RX10 yX10_stands wsX10_stands) := goodIn_app (goodIn_of _ (by decide +kernel)) ggX10_check_X10_stands
set_option maxRecDepth 20000 in
theorem ggX10_check_X10_part : GoodIn wsX10_check wsX10_part := goodIn_r _ [122, 17, 43, 44, 9, 45, 18, 19, 20, 21, 22, 1, 123, 124, 125, 126, 127, 128, 129, 130, 131, 132, 133, 134, 135, 136, 137, 138, 139, 140, 141, 142, 143, 144, 145, 146, 147, 148, 149, 150, 151, 152, 153, 154, 155, 156, 157, 158] (by decide +kernel) (by decide +kernel)
set_option maxRecDepth 20000 in
theorem gX10_check_X10_part : GoodIn wsX10_check (wsV RX10 286 RX10 yX10_part wsX10_part) := goodIn_app (goodIn_of _ (by decide +kernel)) ggX10_check_X10_part
theorem dX10_check_0 : decode cX10_check 0 = .ok (.iload_n 1, 1) := by decide +kernel
theorem dX10_check_1 : decode cX10_check 1 = .ok (.ifCond .ge 6, 3) := by decide +kernel
theorem dX10_check_4 : decode cX10_check 4 = .ok (.bipush (-2), 2) := by decide +kernel
theorem dX10_check_6 : decode cX10_check 6 = .ok (.ireturn, 1) := by decide +kernel
theorem dX10_check_7 : decode cX10_check 7 = .ok (.aload_n 0, 1) := by decide +kernel
theorem dX10_check_8 : decode cX10_check 8 = .ok (.invokevirtual 142, 3) := by decide +kernel
theorem dX10_check_11 : decode cX10_check 11 = .ok (.iconst 3, 1) := by decide +kernel
theorem dX10_check_12 : decode cX10_check 12 = .ok (.if_icmp .ge 6, 3) := by decide +kernel
theorem dX10_check_15 : decode cX10_check 15 = .ok (.bipush (-4), 2) := by decide +kernel
theorem dX10_check_17 : decode cX10_check 17 = .ok (.ireturn, 1) := by decide +kernel
theorem dX10_check_18 : decode cX10_check 18 = .ok (.aload_n 0, 1) := by decide +kernel
theorem dX10_check_19 : decode cX10_check 19 = .ok (.iconst 0, 1) := by decide +kernel
theorem dX10_check_20 : decode cX10_check 20 = .ok (.putfield 240, 3) := by decide +kernel
theorem dX10_check_23 : decode cX10_check 23 = .ok (.aload_n 0, 1) := by decide +kernel
theorem dX10_check_24 : decode cX10_check 24 = .ok (.invokevirtual 231, 3) := by decide +kernel
theorem dX10_check_27 : decode cX10_check 27 = .ok (.aload_n 0, 1) := by decide +kernel
theorem dX10_check_28 : decode cX10_check 28 = .ok (.invokevirtual 264, 3) := by decide +kernel
theorem dX10_check_31 : decode cX10_check 31 = .ok (.iconst 0, 1) := by decide +kernel
theorem dX10_check_32 : decode cX10_check 32 = .ok (.istore_n 2, 1) := by decide +kernel
theorem dX10_check_33 : decode cX10_check 33 = .ok (.aload_n 0, 1) := by decide +kernel
theorem dX10_check_34 : decode cX10_check 34 = .ok (.getfield 240, 3) := by decide +kernel
theorem dX10_check_37 : decode cX10_check 37 = .ok (.ifCond .le 75, 3) := by decide +kernel
theorem dX10_check_40 : decode cX10_check 40 = .ok (.iload_n 2, 1) := by decide +kernel
theorem dX10_check_41 : decode cX10_check 41 = .ok (.aload_n 0, 1) := by decide +kernel
theorem dX10_check_42 : decode cX10_check 42 = .ok (.getfield 146, 3) := by decide +kernel
theorem dX10_check_45 : decode cX10_check 45 = .ok (.if_icmp .ge 67, 3) := by decide +kernel
theorem dX10_check_48 : decode cX10_check 48 = .ok (.aload_n 0, 1) := by decide +kernel
theorem dX10_check_49 : decode cX10_check 49 = .ok (.invokevirtual 274, 3) := by decide +kernel
theorem dX10_check_52 : decode cX10_check 52 = .ok (.aload_n 0, 1) := by decide +kernel
theorem dX10_check_53 : decode cX10_check 53 = .ok (.aload_n 0, 1) := by decide +kernel
theorem dX10_check_54 : decode cX10_check 54 = .ok (.getfield 54, 3) := by decide +kernel
theorem dX10_check_57 : decode cX10_check 57 = .ok (.iload_n 2, 1) := by decide +kernel
theorem dX10_check_58 : decode cX10_check 58 = .ok (.iaload, 1) := by decide +kernel
theorem dX10_check_59 : decode cX10_check 59 = .ok (.aload_n 0, 1) := by decide +kernel
theorem dX10_check_60 : decode cX10_check 60 = .ok (.getfield 57, 3) := by decide +kernel
theorem dX10_check_63 : decode cX10_check 63 = .ok (.iload_n 2, 1) := by decide +kernel
theorem dX10_check_64 : decode cX10_check 64 = .ok (.iaload, 1) := by decide +kernel
theorem dX10_check_65 : decode cX10_check 65 = .ok (.aload_n 0, 1) := by decide +kernel
theorem dX10_check_66 : decode cX10_check 66 = .ok (.getfield 60, 3) := by decide +kernel
theorem dX10_check_69 : decode cX10_check 69 = .ok (.iload_n 2, 1) := by decide +kernel
theorem dX10_check_70 : decode cX10_check 70 = .ok (.iaload, 1) := by decide +kernel
theorem dX10_check_71 : decode cX10_check 71 = .ok (.iload_n 1, 1) := by decide +kernel
theorem dX10_check_72 : decode cX10_check 72 = .ok (.invokevirtual 270, 3) := by decide +kernel
theorem dX10_check_75 : decode cX10_check 75 = .ok (.ifCond .ne 5, 3) := by decide +kernel
theorem dX10_check_78 : decode cX10_check 78 = .ok (.iload_n 2, 1) := by decide +kernel
theorem dX10_check_79 : decode cX10_check 79 = .ok (.ireturn, 1) := by decide +kernel
theorem dX10_check_80 : decode cX10_check 80 = .ok (.aload_n 0, 1) := by decide +kernel
theorem dX10_check_81 : decode cX10_check 81 = .ok (.getfield 54, 3) := by decide +kernel
theorem dX10_check_84 : decode cX10_check 84 = .ok (.iload_n 2, 1) := by decide +kernel
theorem dX10_check_85 : decode cX10_check 85 = .ok (.iaload, 1) := by decide +kernel
theorem dX10_check_86 : decode cX10_check 86 = .ok (.iconst 1, 1) := by decide +kernel
theorem dX10_check_87 : decode cX10_check 87 = .ok (.if_icmp .ne 19, 3) := by decide +kernel
theorem dX10_check_90 : decode cX10_check 90 = .ok (.aload_n 0, 1) := by decide +kernel
theorem dX10_check_91 : decode cX10_check 91 = .ok (.aload_n 0, 1) := by decide +kernel
theorem dX10_check_92 : decode cX10_check 92 = .ok (.getfield 57, 3) := by decide +kernel
theorem dX10_check_95 : decode cX10_check 95 = .ok (.iload_n 2, 1) := by decide +kernel
theorem dX10_check_96 : decode cX10_check 96 = .ok (.iaload, 1) := by decide +kernel
theorem dX10_check_97 : decode cX10_check 97 = .ok (.aload_n 0, 1) := by decide +kernel
theorem dX10_check_98 : decode cX10_check 98 = .ok (.getfield 60, 3) := by decide +kernel
theorem dX10_check_101 : decode cX10_check 101 = .ok (.iload_n 2, 1) := by decide +kernel
theorem dX10_check_102 : decode cX10_check 102 = .ok (.iaload, 1) := by decide +kernel
theorem dX10_check_103 : decode cX10_check 103 = .ok (.invokevirtual 286, 3) := by decide +kernel
theorem dX10_check_106 : decode cX10_check 106 = .ok (.iinc 2 1, 3) := by decide +kernel
theorem dX10_check_109 : decode cX10_check 109 = .ok (.goto (-76), 3) := by decide +kernel
theorem dX10_check_112 : decode cX10_check 112 = .ok (.aload_n 0, 1) := by decide +kernel
theorem dX10_check_113 : decode cX10_check 113 = .ok (.getfield 240, 3) := by decide +kernel
theorem dX10_check_116 : decode cX10_check 116 = .ok (.ifCond .gt 11, 3) := by decide +kernel
theorem dX10_check_119 : decode cX10_check 119 = .ok (.iload_n 2, 1) := by decide +kernel
theorem dX10_check_120 : decode cX10_check 120 = .ok (.aload_n 0, 1) := by decide +kernel
theorem dX10_check_121 : decode cX10_check 121 = .ok (.getfield 146, 3) := by decide +kernel
theorem dX10_check_124 : decode cX10_check 124 = .ok (.if_icmp .ge 7, 3) := by decide +kernel
theorem dX10_check_127 : decode cX10_check 127 = .ok (.iload_n 2, 1) := by decide +kernel
theorem dX10_check_128 : decode cX10_check 128 = .ok (.goto 4, 3) := by decide +kernel
theorem dX10_check_131 : decode cX10_check 131 = .ok (.iconst (-1), 1) := by decide +kernel
theorem dX10_check_132 : decode cX10_check 132 = .ok (.ireturn, 1) := by decide +kernel
theorem dJ6_bitCount_0f7a4_0 : decode cJ6_bitCount_0f7a4 0 = .ok (.iload_n 0, 1) := by decide +kernel
theorem dJ6_bitCount_0f7a4_1 : decode cJ6_bitCount_0f7a4 1 = .ok (.iload_n 0, 1) := by decide +kernel
theorem dJ6_bitCount_0f7a4_2 : decode cJ6_bitCount_0f7a4 2 = .ok (.iconst 1, 1) := by decide +kernel
theorem dJ6_bitCount_0f7a4_3 : decode cJ6_bitCount_0f7a4 3 = .ok (.iushr, 1) := by decide +kernel
theorem dJ6_bitCount_0f7a4_4 : decode cJ6_bitCount_0f7a4 4 = .ok (.ldc_w 265, 3) := by decide +kernel
theorem dJ6_bitCount_0f7a4_7 : decode cJ6_bitCount_0f7a4 7 = .ok (.iand, 1) := by decide +kernel
theorem dJ6_bitCount_0f7a4_8 : decode cJ6_bitCount_0f7a4 8 = .ok (.isub, 1) := by decide +kernel
theorem dJ6_bitCount_0f7a4_9 : decode cJ6_bitCount_0f7a4 9 = .ok (.istore_n 0, 1) := by decide +kernel
theorem dJ6_bitCount_0f7a4_10 : decode cJ6_bitCount_0f7a4 10 = .ok (.iload_n 0, 1) := by decide +kernel
theorem dJ6_bitCount_0f7a4_11 : decode cJ6_bitCount_0f7a4 11 = .ok (.ldc_w 266, 3) := by decide +kernel
theorem dJ6_bitCount_0f7a4_14 : decode cJ6_bitCount_0f7a4 14 = .ok (.iand, 1) := by decide +kernel
theorem dJ6_bitCount_0f7a4_15 : decode cJ6_bitCount_0f7a4 15 = .ok (.iload_n 0, 1) := by decide +kernel
theorem dJ6_bitCount_0f7a4_16 : decode cJ6_bitCount_0f7a4 16 = .ok (.iconst 2, 1) := by decide +kernel
theorem dJ6_bitCount_0f7a4_17 : decode cJ6_bitCount_0f7a4 17 = .ok (.iushr, 1) := by decide +kernel
theorem dJ6_bitCount_0f7a4_18 : decode cJ6_bitCount_0f7a4 18 = .ok (.ldc_w 266, 3) := by decide +kernel
theorem dJ6_bitCount_0f7a4_21 : decode cJ6_bitCount_0f7a4 21 = .ok (.iand, 1) := by decide +kernel
theorem dJ6_bitCount_0f7a4_22 : decode cJ6_bitCount_0f7a4 22 = .ok (.iadd, 1) := by decide +kernel
theorem dJ6_bitCount_0f7a4_23 : decode cJ6_bitCount_0f7a4 23 = .ok (.istore_n 0, 1) := by decide +kernel
theorem dJ6_bitCount_0f7a4_24 : decode cJ6_bitCount_0f7a4 24 = .ok (.iload_n 0, 1) := by decide +kernel
theorem dJ6_bitCount_0f7a4_25 : decode cJ6_bitCount_0f7a4 25 = .ok (.iload_n 0, 1) := by decide +kernel
theorem dJ6_bitCount_0f7a4_26 : decode cJ6_bitCount_0f7a4 26 = .ok (.iconst 4, 1) := by decide +kernel
theorem dJ6_bitCount_0f7a4_27 : decode cJ6_bitCount_0f7a4 27 = .ok (.iushr, 1) := by decide +kernel
theorem dJ6_bitCount_0f7a4_28 : decode cJ6_bitCount_0f7a4 28 = .ok (.iadd, 1) := by decide +kernel
theorem dJ6_bitCount_0f7a4_29 : decode cJ6_bitCount_0f7a4 29 = .ok (.ldc_w 267, 3) := by decide +kernel
theorem dJ6_bitCount_0f7a4_32 : decode cJ6_bitCount_0f7a4 32 = .ok (.iand, 1) := by decide +kernel
theorem dJ6_bitCount_0f7a4_33 : decode cJ6_bitCount_0f7a4 33 = .ok (.istore_n 0, 1) := by decide +kernel
theorem dJ6_bitCount_0f7a4_34 : decode cJ6_bitCount_0f7a4 34 = .ok (.iload_n 0, 1) := by decide +kernel
theorem dJ6_bitCount_0f7a4_35 : decode cJ6_bitCount_0f7a4 35 = .ok (.iload_n 0, 1) := by decide +kernel
theorem dJ6_bitCount_0f7a4_36 : decode cJ6_bitCount_0f7a4 36 = .ok (.bipush 8, 2) := by decide +kernel
theorem dJ6_bitCount_0f7a4_38 : decode cJ6_bitCount_0f7a4 38 = .ok (.iushr, 1) := by decide +kernel
theorem dJ6_bitCount_0f7a4_39 : decode cJ6_bitCount_0f7a4 39 = .ok (.iadd, 1) := by decide +kernel
theorem dJ6_bitCount_0f7a4_40 : decode cJ6_bitCount_0f7a4 40 = .ok (.istore_n 0, 1) := by decide +kernel
theorem dJ6_bitCount_0f7a4_41 : decode cJ6_bitCount_0f7a4 41 = .ok (.iload_n 0, 1) := by decide +kernel
theorem dJ6_bitCount_0f7a4_42 : decode cJ6_bitCount_0f7a4 42 = .ok (.iload_n 0, 1) := by decide +kernel
theorem dJ6_bitCount_0f7a4_43 : decode cJ6_bitCount_0f7a4 43 = .ok (.bipush 16, 2) := by decide +kernel
theorem dJ6_bitCount_0f7a4_45 : decode cJ6_bitCount_0f7a4 45 = .ok (.iushr, 1) := by decide +kernel
theorem dJ6_bitCount_0f7a4_46 : decode cJ6_bitCount_0f7a4 46 = .ok (.iadd, 1) := by decide +kernel
theorem dJ6_bitCount_0f7a4_47 : decode cJ6_bitCount_0f7a4 47 = .ok (.istore_n 0, 1) := by decide +kernel
theorem dJ6_bitCount_0f7a4_48 : decode cJ6_bitCount_0f7a4 48 = .ok (.iload_n 0, 1) := by decide +kernel
theorem dJ6_bitCount_0f7a4_49 : decode cJ6_bitCount_0f7a4 49 = .ok (.bipush 63, 2) := by decide +kernel
theorem dJ6_bitCount_0f7a4_51 : decode cJ6_bitCount_0f7a4 51 = .ok (.iand, 1) := by decide +kernel
theorem dJ6_bitCount_0f7a4_52 : decode cJ6_bitCount_0f7a4 52 = .ok (.ireturn, 1) := by decide +kernel
theorem dJ7_fill_d0a16_0 : decode cJ7_fill_d0a16 0 = .ok (.iconst 0, 1) := by decide +kernel
theorem dJ7_fill_d0a16_1 : decode cJ7_fill_d0a16 1 = .ok (.istore_n 3, 1) := by decide +kernel
theorem dJ7_fill_d0a16_2 : decode cJ7_fill_d0a16 2 = .ok (.aload_n 0, 1) := by decide +kernel
theorem dJ7_fill_d0a16_3 : decode cJ7_fill_d0a16 3 = .ok (.arraylength, 1) := by decide +kernel
theorem dJ7_fill_d0a16_4 : decode cJ7_fill_d0a16 4 = .ok (.istore 4, 2) := by decide +kernel
theorem dJ7_fill_d0a16_6 : decode cJ7_fill_d0a16 6 = .ok (.iload_n 3, 1) := by decide +kernel
theorem dJ7_fill_d0a16_7 : decode cJ7_fill_d0a16 7 = .ok (.iload 4, 2) := by decide +kernel
theorem dJ7_fill_d0a16_9 : decode cJ7_fill_d0a16 9 = .ok (.if_icmp .ge 13, 3) := by decide +kernel
theorem dJ7_fill_d0a16_12 : decode cJ7_fill_d0a16 12 = .ok (.aload_n 0, 1) := by decide +kernel
theorem dJ7_fill_d0a16_13 : decode cJ7_fill_d0a16 13 = .ok (.iload_n 3, 1) := by decide +kernel
theorem dJ7_fill_d0a16_14 : decode cJ7_fill_d0a16 14 = .ok (.lload_n 1, 1) := by decide +kernel
theorem dJ7_fill_d0a16_15 : decode cJ7_fill_d0a16 15 = .ok (.lastore, 1) := by decide +kernel
theorem dJ7_fill_d0a16_16 : decode cJ7_fill_d0a16 16 = .ok (.iinc 3 1, 3) := by decide +kernel
theorem dJ7_fill_d0a16_19 : decode cJ7_fill_d0a16 19 = .ok (.goto (-13), 3) := by decide +kernel
theorem dJ7_fill_d0a16_22 : decode cJ7_fill_d0a16 22 = .ok (.return_, 1) := by decide +kernel
theorem dJ7_fill_53178_0 : decode cJ7_fill_53178 0 = .ok (.iconst 0, 1) := by decide +kernel
theorem dJ7_fill_53178_1 : decode cJ7_fill_53178 1 = .ok (.istore_n 2, 1) := by decide +kernel
theorem dJ7_fill_53178_2 : decode cJ7_fill_53178 2 = .ok (.aload_n 0, 1) := by decide +kernel
theorem dJ7_fill_53178_3 : decode cJ7_fill_53178 3 = .ok (.arraylength, 1) := by decide +kernel
theorem dJ7_fill_53178_4 : decode cJ7_fill_53178 4 = .ok (.istore_n 3, 1) := by decide +kernel
theorem dJ7_fill_53178_5 : decode cJ7_fill_53178 5 = .ok (.iload_n 2, 1) := by decide +kernel
theorem dJ7_fill_53178_6 : decode cJ7_fill_53178 6 = .ok (.iload_n 3, 1) := by decide +kernel
theorem dJ7_fill_53178_7 : decode cJ7_fill_53178 7 = .ok (.if_icmp .ge 13, 3) := by decide +kernel
theorem dJ7_fill_53178_10 : decode cJ7_fill_53178 10 = .ok (.aload_n 0, 1) := by decide +kernel
theorem dJ7_fill_53178_11 : decode cJ7_fill_53178 11 = .ok (.iload_n 2, 1) := by decide +kernel
theorem dJ7_fill_53178_12 : decode cJ7_fill_53178 12 = .ok (.iload_n 1, 1) := by decide +kernel
theorem dJ7_fill_53178_13 : decode cJ7_fill_53178 13 = .ok (.iastore, 1) := by decide +kernel
theorem dJ7_fill_53178_14 : decode cJ7_fill_53178 14 = .ok (.iinc 2 1, 3) := by decide +kernel
theorem dJ7_fill_53178_17 : decode cJ7_fill_53178 17 = .ok (.goto (-12), 3) := by decide +kernel
theorem dJ7_fill_53178_20 : decode cJ7_fill_53178 20 = .ok (.return_, 1) := by decide +kernel
