theorem dX10_isPart_31 : decode cX10_isPart 31 = .ok (.ifCond .ne 7, 3) := by decide +kernel
theorem dX10_isPart_34 : decode cX10_isPart 34 = .ok (.iconst 1, 1) := by decide +kernel
theorem dX10_isPart_35 : decode cX10_isPart 35 = .ok (.goto 4, 3) := by decide +kernel
theorem dX10_isPart_38 : decode cX10_isPart 38 = .ok (.iconst 0, 1) := by decide +kernel
theorem dX10_isPart_39 : decode cX10_isPart 39 = .ok (.ireturn, 1) := by decide +kernel
set_option maxRecDepth 20000 in
theorem ggX10_stands_X10_isPart : GoodIn wsX10_stands wsX10_isPart := goodIn_r _ [5, 6, 7, 8, 9, 4, 10, 11, 12, 13, 14, 15, 16, 17, 18, 19, 93, 94, 95, 96, 97, 98, 99, 100, 101, 102, 103, 104, 105, 106, 107, 108, 109, 110, 111, 112, 113, 114, 115, 116, 117, 118, 119, 120, 121, 122, 123, 124, 125, 126, 127, 128] (by decide +kernel) (by decide +kernel)
set_option maxRecDepth 20000 in
theorem gX10_stands_X10_isPart : GoodIn wsX10_stands (wsV RX10 249 RX10 yX10_isPart wsX10_isPart) := goodIn_app (goodIn_of _ (by decide +kernel)) ggX10_stands_X10_isPart
set_option maxRecDepth 20000 in
theorem ggX10_stands_X10_tree : GoodIn wsX10_stands wsX10_tree := goodIn_r _ [23, 24, 25, 26, 27, 16, 11, 28, 29, 30, 31, 32, 33, 4, 34, 6, 35, 36, 37, 38, 39, 40, 41, 42, 7, 8, 9, 10, 12, 13, 14, 15, 43, 44, 45, 46, 47, 48, 49, 50, 51, 52, 53, 54, 55, 56, 57, 58, 59, 60, 61, 62, 63, 64, 65, 93, 94, 95, 96, 97, 98, 99, 100, 101, 102, 103, 104, 105, 106, 107, 108, 109, 110, 111, 112, 113, 114, 115, 116, 117, 118, 119, 120, 121, 122, 123, 124, 125, 126, 127, 128] (by decide +kernel) (by decide +kernel)
set_option maxRecDepth 20000 in
theorem gX10_stands_X10_tree : GoodIn wsX10_stands (wsV RX10 234 RX10 yX10_tree wsX10_tree) := goodIn_app (goodIn_of _ (by decide +kernel)) ggX10_stands_X10_tree
set_option maxRecDepth 20000 in
theorem ggX10_stands_X10_isFew : GoodIn wsX10_stands wsX10_isFew := goodIn_r _ [69, 16, 6, 7, 8, 9, 4, 10, 11, 12, 13, 14, 15, 17, 18, 19, 93, 94, 95, 96, 97, 98, 99, 100, 101, 102, 103, 104, 105, 106, 107, 108, 109, 110, 111, 112, 113, 114, 115, 116, 117, 118, 119, 120, 121, 122, 123, 124, 125, 126, 127, 128] (by decide +kernel) (by decide +kernel)
set_option maxRecDepth 20000 in
theorem gX10_stands_X10_isFew : GoodIn wsX10_stands (wsV RX10 252 RX10 yX10_isFew wsX10_isFew) := goodIn_app (goodIn_of _ (by decide +kernel)) ggX10_stands_X10_isFew
set_option maxRecDepth 20000 in
theorem ggX10_stands_X10_isMany : GoodIn wsX10_stands wsX10_isMany := goodIn_r _ [73, 7, 8, 9, 4, 10, 11, 12, 13, 14, 15, 16, 74, 75, 76, 77, 6, 17, 18, 19, 93, 94, 95, 96, 97, 98, 99, 100, 101, 102, 103, 104, 105, 106, 107, 108, 109, 110, 111, 112, 113, 114, 115, 116, 117, 118, 119, 120, 121, 122, 123, 124, 125, 126, 127, 128] (by decide +kernel) (by decide +kernel)
set_option maxRecDepth 20000 in
theorem gX10_stands_X10_isMany : GoodIn wsX10_stands (wsV RX10 255 RX10 yX10_isMany wsX10_isMany) := goodIn_app (goodIn_of _ (by decide +kernel)) ggX10_stands_X10_isMany
set_option maxRecDepth 20000 in
theorem ggX10_stands_X10_isRing : GoodIn wsX10_stands wsX10_isRing := goodIn_r _ [81, 82, 6, 16, 11, 7, 8, 9, 4, 10, 12, 13, 14, 15, 39, 40, 41, 42, 74, 75, 76, 77, 17, 18, 19, 93, 94, 95, 96, 97, 98, 99, 100, 101, 102, 103, 104, 105, 106, 107, 108, 109, 110, 111, 112, 113, 114, 115, 116, 117, 118, 119, 120, 121, 122, 123, 124, 125, 126, 127, 128] (by decide +kernel) (by decide +kernel)
set_option maxRecDepth 20000 in
theorem gX10_stands_X10_isRing : GoodIn wsX10_stands (wsV RX10 258 RX10 yX10_isRing wsX10_isRing) := goodIn_app (goodIn_of _ (by decide +kernel)) ggX10_stands_X10_isRing
set_option maxRecDepth 20000 in
theorem ggX10_stands_X10_isTwins : GoodIn wsX10_stands wsX10_isTwins := goodIn_r _ [86, 6, 7, 8, 9, 4, 10, 11, 12, 13, 14, 15, 16, 87, 88, 89, 90, 91, 92, 47, 48, 49, 50, 51, 52, 53, 17, 18, 19, 93, 94, 95, 96, 97, 98, 99, 100, 101, 102, 103, 104, 105, 106, 107, 108, 109, 110, 111, 112, 113, 114, 115, 116, 117, 118, 119, 120, 121, 122, 123, 124, 125, 126, 127, 128] (by decide +kernel) (by decide +kernel)
set_option maxRecDepth 20000 in
theorem gX10_stands_X10_isTwins : GoodIn wsX10_stands (wsV RX10 261 RX10 yX10_isTwins wsX10_isTwins) := goodIn_app (goodIn_of _ (by decide +kernel)) ggX10_stands_X10_isTwins
theorem dX10_stands_0 : decode cX10_stands 0 = .ok (.iload_n 1, 1) := by decide +kernel
theorem dX10_stands_1 : decode cX10_stands 1 = .ok (.tableswitch 77 1 5 #[35, 42, 59, 65, 71], 35) := by decide +kernel
theorem dX10_stands_36 : decode cX10_stands 36 = .ok (.aload_n 0, 1) := by decide +kernel
theorem dX10_stands_37 : decode cX10_stands 37 = .ok (.iload_n 2, 1) := by decide +kernel
theorem dX10_stands_38 : decode cX10_stands 38 = .ok (.iload_n 3, 1) := by decide +kernel
theorem dX10_stands_39 : decode cX10_stands 39 = .ok (.invokevirtual 249, 3) := by decide +kernel
theorem dX10_stands_42 : decode cX10_stands 42 = .ok (.ireturn, 1) := by decide +kernel
theorem dX10_stands_43 : decode cX10_stands 43 = .ok (.aload_n 0, 1) := by decide +kernel
theorem dX10_stands_44 : decode cX10_stands 44 = .ok (.invokevirtual 234, 3) := by decide +kernel
theorem dX10_stands_47 : decode cX10_stands 47 = .ok (.iload 4, 2) := by decide +kernel
theorem dX10_stands_49 : decode cX10_stands 49 = .ok (.i2l, 1) := by decide +kernel
theorem dX10_stands_50 : decode cX10_stands 50 = .ok (.lcmp, 1) := by decide +kernel
theorem dX10_stands_51 : decode cX10_stands 51 = .ok (.ifCond .lt 7, 3) := by decide +kernel
theorem dX10_stands_54 : decode cX10_stands 54 = .ok (.iconst 1, 1) := by decide +kernel
theorem dX10_stands_55 : decode cX10_stands 55 = .ok (.goto 4, 3) := by decide +kernel
theorem dX10_stands_58 : decode cX10_stands 58 = .ok (.iconst 0, 1) := by decide +kernel
theorem dX10_stands_59 : decode cX10_stands 59 = .ok (.ireturn, 1) := by decide +kernel
theorem dX10_stands_60 : decode cX10_stands 60 = .ok (.aload_n 0, 1) := by decide +kernel
theorem dX10_stands_61 : decode cX10_stands 61 = .ok (.iload_n 2, 1) := by decide +kernel
theorem dX10_stands_62 : decode cX10_stands 62 = .ok (.invokevirtual 252, 3) := by decide +kernel
theorem dX10_stands_65 : decode cX10_stands 65 = .ok (.ireturn, 1) := by decide +kernel
theorem dX10_stands_66 : decode cX10_stands 66 = .ok (.aload_n 0, 1) := by decide +kernel
theorem dX10_stands_67 : decode cX10_stands 67 = .ok (.iload_n 2, 1) := by decide +kernel
theorem dX10_stands_68 : decode cX10_stands 68 = .ok (.invokevirtual 255, 3) := by decide +kernel
theorem dX10_stands_71 : decode cX10_stands 71 = .ok (.ireturn, 1) := by decide +kernel
theorem dX10_stands_72 : decode cX10_stands 72 = .ok (.aload_n 0, 1) := by decide +kernel
theorem dX10_stands_73 : decode cX10_stands 73 = .ok (.iload_n 2, 1) := by decide +kernel
theorem dX10_stands_74 : decode cX10_stands 74 = .ok (.invokevirtual 258, 3) := by decide +kernel
theorem dX10_stands_77 : decode cX10_stands 77 = .ok (.ireturn, 1) := by decide +kernel
theorem dX10_stands_78 : decode cX10_stands 78 = .ok (.aload_n 0, 1) := by decide +kernel
theorem dX10_stands_79 : decode cX10_stands 79 = .ok (.iload_n 2, 1) := by decide +kernel
theorem dX10_stands_80 : decode cX10_stands 80 = .ok (.iload_n 3, 1) := by decide +kernel
theorem dX10_stands_81 : decode cX10_stands 81 = .ok (.invokevirtual 261, 3) := by decide +kernel
theorem dX10_stands_84 : decode cX10_stands 84 = .ok (.ireturn, 1) := by decide +kernel
set_option maxRecDepth 20000 in
theorem ggX10_part_X10_pairOf : GoodIn wsX10_part wsX10_pairOf := goodIn_r _ [5] (by decide +kernel) (by decide +kernel)
set_option maxRecDepth 20000 in
theorem gX10_part_X10_pairOf : GoodIn wsX10_part (va_wsS RX10 243 yX10_pairOf wsX10_pairOf) := goodIn_app (goodIn_of _ (by decide +kernel)) ggX10_part_X10_pairOf
set_option maxRecDepth 20000 in
theorem ggX10_part_X10_pushCase : GoodIn wsX10_part wsX10_pushCase := goodIn_r _ [9, 10, 11, 1, 12, 13, 14, 15, 16, 17, 18, 19, 20, 21, 22, 23, 24, 25, 26, 27, 28, 29, 30, 31, 32, 33, 34, 35, 36, 37, 38, 39, 40, 41, 42, 43, 44, 45, 46, 47] (by decide +kernel) (by decide +kernel)
set_option maxRecDepth 20000 in
theorem gX10_part_X10_pushCase : GoodIn wsX10_part (wsV RX10 264 RX10 yX10_pushCase wsX10_pushCase) := goodIn_app (goodIn_of _ (by decide +kernel)) ggX10_part_X10_pushCase
theorem dX10_part_0 : decode cX10_part 0 = .ok (.aload_n 0, 1) := by decide +kernel
theorem dX10_part_1 : decode cX10_part 1 = .ok (.getfield 72, 3) := by decide +kernel
theorem dX10_part_4 : decode cX10_part 4 = .ok (.iload_n 1, 1) := by decide +kernel
theorem dX10_part_5 : decode cX10_part 5 = .ok (.iload_n 2, 1) := by decide +kernel
theorem dX10_part_6 : decode cX10_part 6 = .ok (.invokestatic 243, 3) := by decide +kernel
theorem dX10_part_9 : decode cX10_part 9 = .ok (.iconst 2, 1) := by decide +kernel
theorem dX10_part_10 : decode cX10_part 10 = .ok (.iastore, 1) := by decide +kernel
theorem dX10_part_11 : decode cX10_part 11 = .ok (.aload_n 0, 1) := by decide +kernel
theorem dX10_part_12 : decode cX10_part 12 = .ok (.invokevirtual 264, 3) := by decide +kernel
theorem dX10_part_15 : decode cX10_part 15 = .ok (.aload_n 0, 1) := by decide +kernel
theorem dX10_part_16 : decode cX10_part 16 = .ok (.getfield 72, 3) := by decide +kernel
theorem dX10_part_19 : decode cX10_part 19 = .ok (.iload_n 1, 1) := by decide +kernel
theorem dX10_part_20 : decode cX10_part 20 = .ok (.iload_n 2, 1) := by decide +kernel
theorem dX10_part_21 : decode cX10_part 21 = .ok (.invokestatic 243, 3) := by decide +kernel
theorem dX10_part_24 : decode cX10_part 24 = .ok (.iconst 1, 1) := by decide +kernel
theorem dX10_part_25 : decode cX10_part 25 = .ok (.iastore, 1) := by decide +kernel
theorem dX10_part_26 : decode cX10_part 26 = .ok (.aload_n 0, 1) := by decide +kernel
theorem dX10_part_27 : decode cX10_part 27 = .ok (.invokevirtual 264, 3) := by decide +kernel
theorem dX10_part_30 : decode cX10_part 30 = .ok (.return_, 1) := by decide +kernel
theorem dX10_write__0 : decode cX10_write_ 0 = .ok (.aload_n 0, 1) := by decide +kernel
theorem dX10_write__1 : decode cX10_write_ 1 = .ok (.getfield 267, 3) := by decide +kernel
theorem dX10_write__4 : decode cX10_write_ 4 = .ok (.sipush 400, 3) := by decide +kernel
theorem dX10_write__7 : decode cX10_write_ 7 = .ok (.if_icmp .ne 5, 3) := by decide +kernel
theorem dX10_write__10 : decode cX10_write_ 10 = .ok (.iconst 0, 1) := by decide +kernel
theorem dX10_write__11 : decode cX10_write_ 11 = .ok (.ireturn, 1) := by decide +kernel
theorem dX10_write__12 : decode cX10_write_ 12 = .ok (.aload_n 0, 1) := by decide +kernel
theorem dX10_write__13 : decode cX10_write_ 13 = .ok (.getfield 90, 3) := by decide +kernel
theorem dX10_write__16 : decode cX10_write_ 16 = .ok (.aload_n 0, 1) := by decide +kernel
theorem dX10_write__17 : decode cX10_write_ 17 = .ok (.getfield 267, 3) := by decide +kernel
theorem dX10_write__20 : decode cX10_write_ 20 = .ok (.iload_n 1, 1) := by decide +kernel
theorem dX10_write__21 : decode cX10_write_ 21 = .ok (.iastore, 1) := by decide +kernel
theorem dX10_write__22 : decode cX10_write_ 22 = .ok (.aload_n 0, 1) := by decide +kernel
theorem dX10_write__23 : decode cX10_write_ 23 = .ok (.getfield 93, 3) := by decide +kernel
theorem dX10_write__26 : decode cX10_write_ 26 = .ok (.aload_n 0, 1) := by decide +kernel
theorem dX10_write__27 : decode cX10_write_ 27 = .ok (.getfield 267, 3) := by decide +kernel
theorem dX10_write__30 : decode cX10_write_ 30 = .ok (.iload_n 2, 1) := by decide +kernel
theorem dX10_write__31 : decode cX10_write_ 31 = .ok (.iastore, 1) := by decide +kernel
theorem dX10_write__32 : decode cX10_write_ 32 = .ok (.aload_n 0, 1) := by decide +kernel
theorem dX10_write__33 : decode cX10_write_ 33 = .ok (.getfield 96, 3) := by decide +kernel
theorem dX10_write__36 : decode cX10_write_ 36 = .ok (.aload_n 0, 1) := by decide +kernel
theorem dX10_write__37 : decode cX10_write_ 37 = .ok (.getfield 267, 3) := by decide +kernel
theorem dX10_write__40 : decode cX10_write_ 40 = .ok (.iload_n 3, 1) := by decide +kernel
theorem dX10_write__41 : decode cX10_write_ 41 = .ok (.iastore, 1) := by decide +kernel
theorem dX10_write__42 : decode cX10_write_ 42 = .ok (.aload_n 0, 1) := by decide +kernel
theorem dX10_write__43 : decode cX10_write_ 43 = .ok (.dup, 1) := by decide +kernel
theorem dX10_write__44 : decode cX10_write_ 44 = .ok (.getfield 267, 3) := by decide +kernel
theorem dX10_write__47 : decode cX10_write_ 47 = .ok (.iconst 1, 1) := by decide +kernel
theorem dX10_write__48 : decode cX10_write_ 48 = .ok (.iadd, 1) := by decide +kernel
theorem dX10_write__49 : decode cX10_write_ 49 = .ok (.putfield 267, 3) := by decide +kernel
theorem dX10_write__52 : decode cX10_write_ 52 = .ok (.iconst 1, 1) := by decide +kernel
theorem dX10_write__53 : decode cX10_write_ 53 = .ok (.ireturn, 1) := by decide +kernel
set_option maxRecDepth 20000 in
theorem ggX10_ending_X10_isTwins : GoodIn wsX10_ending wsX10_isTwins := goodIn_r _ [6, 7, 8, 9, 10, 5, 11, 12, 13, 14, 15, 16, 1, 17, 18, 19, 20, 21, 22, 23, 24, 25, 26, 27, 28, 29, 30, 31, 32, 97, 98, 99, 100, 101, 102, 103, 104, 105, 106, 107, 108, 109, 110, 111, 112, 113, 114, 115, 116, 117, 118, 119, 120, 121, 122, 123, 124, 125, 126, 127, 128, 129, 130, 131, 132] (by decide +kernel) (by decide +kernel)
set_option maxRecDepth 20000 in
theorem gX10_ending_X10_isTwins : GoodIn wsX10_ending (wsV RX10 261 RX10 yX10_isTwins wsX10_isTwins) := goodIn_app (goodIn_of _ (by decide +kernel)) ggX10_ending_X10_isTwins
set_option maxRecDepth 20000 in
theorem ggX10_ending_X10_stands : GoodIn wsX10_ending wsX10_stands := goodIn_r _ [36, 37, 38, 39, 5, 40, 7, 8, 9, 10, 11, 12, 13, 14, 15, 16, 1, 30, 31, 32, 41, 42, 43, 44, 45, 46, 47, 48, 49, 50, 51, 52, 53, 54, 55, 56, 57, 58, 59, 60, 61, 62, 63, 64, 65, 66, 67, 23, 24, 25, 26, 27, 28, 29, 68, 69, 70, 71, 72, 73, 74, 75, 76, 77, 78, 79, 80, 81, 82, 83, 84, 85, 86, 87, 88, 89, 90, 91, 92, 93, 94, 95, 96, 2, 3, 4, 6, 17, 18, 19, 20, 21, 22, 97, 98, 99, 100, 101, 102, 103, 104, 105, 106, 107, 108, 109, 110, 111, 112, 113, 114, 115, 116, 117, 118, 119, 120, 121, 122, 123, 124, 125, 126, 127, 128, 129, 130, 131, 132] (by decide +kernel) (by decide +kernel)
set_option maxRecDepth 20000 in
theorem gX10_ending_X10_stands : GoodIn wsX10_ending (wsV RX10 270 RX10 yX10_stands wsX10_stands) := goodIn_app (goodIn_of _ (by decide +kernel)) ggX10_ending_X10_stands
set_option maxRecDepth 20000 in
theorem ggX10_ending_X10_tree : GoodIn wsX10_ending wsX10_tree := goodIn_r _ [44, 45, 46, 47, 48, 1, 12, 49, 50, 51, 52, 53, 54, 5, 55, 7, 56, 57, 58, 59, 60, 61, 62, 63, 8, 9, 10, 11, 13, 14, 15, 16, 64, 65, 66, 67, 23, 24, 25, 26, 27, 28, 29, 68, 69, 70, 71, 72, 73, 74, 75, 76, 77, 78, 79, 97, 98, 99, 100, 101, 102, 103, 104, 105, 106, 107, 108, 109, 110, 111, 112, 113, 114, 115, 116, 117, 118, 119, 120, 121, 122, 123, 124, 125, 126, 127, 128, 129, 130, 131, 132] (by decide +kernel) (by decide +kernel)
set_option maxRecDepth 20000 in
theorem gX10_ending_X10_tree : GoodIn wsX10_ending (wsV RX10 234 RX10 yX10_tree wsX10_tree) := goodIn_app (goodIn_of _ (by decide +kernel)) ggX10_ending_X10_tree
theorem dX10_ending_0 : decode cX10_ending 0 = .ok (.iconst 0, 1) := by decide +kernel
theorem dX10_ending_1 : decode cX10_ending 1 = .ok (.istore_n 2, 1) := by decide +kernel
theorem dX10_ending_2 : decode cX10_ending 2 = .ok (.iload_n 2, 1) := by decide +kernel
theorem dX10_ending_3 : decode cX10_ending 3 = .ok (.sipush 144, 3) := by decide +kernel
theorem dX10_ending_6 : decode cX10_ending 6 = .ok (.if_icmp .ge 30, 3) := by decide +kernel
theorem dX10_ending_9 : decode cX10_ending 9 = .ok (.aload_n 0, 1) := by decide +kernel
theorem dX10_ending_10 : decode cX10_ending 10 = .ok (.iload_n 2, 1) := by decide +kernel
theorem dX10_ending_11 : decode cX10_ending 11 = .ok (.bipush 12, 2) := by decide +kernel
theorem dX10_ending_13 : decode cX10_ending 13 = .ok (.idiv, 1) := by decide +kernel
theorem dX10_ending_14 : decode cX10_ending 14 = .ok (.iload_n 2, 1) := by decide +kernel
theorem dX10_ending_15 : decode cX10_ending 15 = .ok (.bipush 12, 2) := by decide +kernel
theorem dX10_ending_17 : decode cX10_ending 17 = .ok (.irem, 1) := by decide +kernel
theorem dX10_ending_18 : decode cX10_ending 18 = .ok (.invokevirtual 261, 3) := by decide +kernel
theorem dX10_ending_21 : decode cX10_ending 21 = .ok (.ifCond .eq 9, 3) := by decide +kernel
theorem dX10_ending_24 : decode cX10_ending 24 = .ok (.sipush 6000, 3) := by decide +kernel
theorem dX10_ending_27 : decode cX10_ending 27 = .ok (.iload_n 2, 1) := by decide +kernel
theorem dX10_ending_28 : decode cX10_ending 28 = .ok (.iadd, 1) := by decide +kernel
theorem dX10_ending_29 : decode cX10_ending 29 = .ok (.ireturn, 1) := by decide +kernel
theorem dX10_ending_30 : decode cX10_ending 30 = .ok (.iinc 2 1, 3) := by decide +kernel
theorem dX10_ending_33 : decode cX10_ending 33 = .ok (.goto (-31), 3) := by decide +kernel
theorem dX10_ending_36 : decode cX10_ending 36 = .ok (.iconst 3, 1) := by decide +kernel
theorem dX10_ending_37 : decode cX10_ending 37 = .ok (.istore_n 2, 1) := by decide +kernel
theorem dX10_ending_38 : decode cX10_ending 38 = .ok (.iload_n 2, 1) := by decide +kernel
theorem dX10_ending_39 : decode cX10_ending 39 = .ok (.iconst 5, 1) := by decide +kernel
theorem dX10_ending_40 : decode cX10_ending 40 = .ok (.if_icmp .gt 47, 3) := by decide +kernel
theorem dX10_ending_43 : decode cX10_ending 43 = .ok (.iconst 0, 1) := by decide +kernel
theorem dX10_ending_44 : decode cX10_ending 44 = .ok (.istore_n 3, 1) := by decide +kernel
theorem dX10_ending_45 : decode cX10_ending 45 = .ok (.iload_n 3, 1) := by decide +kernel
theorem dX10_ending_46 : decode cX10_ending 46 = .ok (.aload_n 0, 1) := by decide +kernel
theorem dX10_ending_47 : decode cX10_ending 47 = .ok (.getfield 107, 3) := by decide +kernel
theorem dX10_ending_50 : decode cX10_ending 50 = .ok (.if_icmp .ge 31, 3) := by decide +kernel
theorem dX10_ending_53 : decode cX10_ending 53 = .ok (.aload_n 0, 1) := by decide +kernel
theorem dX10_ending_54 : decode cX10_ending 54 = .ok (.iload_n 2, 1) := by decide +kernel
theorem dX10_ending_55 : decode cX10_ending 55 = .ok (.iload_n 3, 1) := by decide +kernel
theorem dX10_ending_56 : decode cX10_ending 56 = .ok (.iconst 0, 1) := by decide +kernel
theorem dX10_ending_57 : decode cX10_ending 57 = .ok (.iload_n 1, 1) := by decide +kernel
theorem dX10_ending_58 : decode cX10_ending 58 = .ok (.invokevirtual 270, 3) := by decide +kernel
theorem dX10_ending_61 : decode cX10_ending 61 = .ok (.ifCond .eq 14, 3) := by decide +kernel
theorem dX10_ending_64 : decode cX10_ending 64 = .ok (.sipush 1000, 3) := by decide +kernel
theorem dX10_ending_67 : decode cX10_ending 67 = .ok (.iload_n 2, 1) := by decide +kernel
theorem dX10_ending_68 : decode cX10_ending 68 = .ok (.imul, 1) := by decide +kernel
theorem dX10_ending_69 : decode cX10_ending 69 = .ok (.bipush 12, 2) := by decide +kernel
theorem dX10_ending_71 : decode cX10_ending 71 = .ok (.iload_n 3, 1) := by decide +kernel
theorem dX10_ending_72 : decode cX10_ending 72 = .ok (.imul, 1) := by decide +kernel
theorem dX10_ending_73 : decode cX10_ending 73 = .ok (.iadd, 1) := by decide +kernel
theorem dX10_ending_74 : decode cX10_ending 74 = .ok (.ireturn, 1) := by decide +kernel
theorem dX10_ending_75 : decode cX10_ending 75 = .ok (.iinc 3 1, 3) := by decide +kernel
theorem dX10_ending_78 : decode cX10_ending 78 = .ok (.goto (-33), 3) := by decide +kernel
theorem dX10_ending_81 : decode cX10_ending 81 = .ok (.iinc 2 1, 3) := by decide +kernel
theorem dX10_ending_84 : decode cX10_ending 84 = .ok (.goto (-46), 3) := by decide +kernel
theorem dX10_ending_87 : decode cX10_ending 87 = .ok (.aload_n 0, 1) := by decide +kernel
theorem dX10_ending_88 : decode cX10_ending 88 = .ok (.invokevirtual 234, 3) := by decide +kernel
theorem dX10_ending_91 : decode cX10_ending 91 = .ok (.iload_n 1, 1) := by decide +kernel
theorem dX10_ending_92 : decode cX10_ending 92 = .ok (.i2l, 1) := by decide +kernel
theorem dX10_ending_93 : decode cX10_ending 93 = .ok (.lcmp, 1) := by decide +kernel
theorem dX10_ending_94 : decode cX10_ending 94 = .ok (.ifCond .lt 9, 3) := by decide +kernel
theorem dX10_ending_97 : decode cX10_ending 97 = .ok (.sipush 2000, 3) := by decide +kernel
theorem dX10_ending_100 : decode cX10_ending 100 = .ok (.goto 4, 3) := by decide +kernel
theorem dX10_ending_103 : decode cX10_ending 103 = .ok (.iconst 0, 1) := by decide +kernel
theorem dX10_ending_104 : decode cX10_ending 104 = .ok (.ireturn, 1) := by decide +kernel
set_option maxRecDepth 20000 in
theorem ggX10_freePair_X10_isPair : GoodIn wsX10_freePair wsX10_isPair := goodIn_r _ [6, 7, 8, 9, 5, 10, 11, 12, 13, 14, 15, 16, 33, 34, 35, 36, 37, 38, 39, 40, 41, 42, 43, 44, 45, 46, 47, 48, 49, 50, 51, 52, 53, 54, 55, 56, 57, 58, 59, 60, 61, 62, 63, 64, 65, 66, 67, 68] (by decide +kernel) (by decide +kernel)
set_option maxRecDepth 20000 in
theorem gX10_freePair_X10_isPair : GoodIn wsX10_freePair (wsV RX10 204 RX10 yX10_isPair wsX10_isPair) := goodIn_app (goodIn_of _ (by decide +kernel)) ggX10_freePair_X10_isPair
set_option maxRecDepth 20000 in
theorem ggX10_freePair_X10_hasWay : GoodIn wsX10_freePair wsX10_hasWay := goodIn_r _ [20, 21, 22, 23, 24, 5, 25, 26, 27, 33, 34, 35, 36, 37, 38, 39, 40, 41, 42, 43, 44, 45, 46, 47, 48, 49, 50, 51, 52, 53, 54, 55, 56, 57, 58, 59, 60, 61, 62, 63, 64, 65, 66, 67, 68] (by decide +kernel) (by decide +kernel)
set_option maxRecDepth 20000 in
theorem gX10_freePair_X10_hasWay : GoodIn wsX10_freePair (wsV RX10 207 RX10 yX10_hasWay wsX10_hasWay) := goodIn_app (goodIn_of _ (by decide +kernel)) ggX10_freePair_X10_hasWay
set_option maxRecDepth 20000 in
theorem ggX10_freePair_X10_priced : GoodIn wsX10_freePair wsX10_priced := goodIn_r _ [31, 32, 22, 23, 24, 5, 25, 26, 27, 33, 34, 35, 36, 37, 38, 39, 40, 41, 42, 43, 44, 45, 46, 47, 48, 49, 50, 51, 52, 53, 54, 55, 56, 57, 58, 59, 60, 61, 62, 63, 64, 65, 66, 67, 68] (by decide +kernel) (by decide +kernel)
set_option maxRecDepth 20000 in
theorem gX10_freePair_X10_priced : GoodIn wsX10_freePair (wsV RX10 197 RX10 yX10_priced wsX10_priced) := goodIn_app (goodIn_of _ (by decide +kernel)) ggX10_freePair_X10_priced
theorem dX10_freePair_0 : decode cX10_freePair 0 = .ok (.iconst (-1), 1) := by decide +kernel
theorem dX10_freePair_1 : decode cX10_freePair 1 = .ok (.istore_n 1, 1) := by decide +kernel
theorem dX10_freePair_2 : decode cX10_freePair 2 = .ok (.iconst 0, 1) := by decide +kernel
theorem dX10_freePair_3 : decode cX10_freePair 3 = .ok (.istore_n 2, 1) := by decide +kernel
theorem dX10_freePair_4 : decode cX10_freePair 4 = .ok (.iload_n 2, 1) := by decide +kernel
theorem dX10_freePair_5 : decode cX10_freePair 5 = .ok (.sipush 144, 3) := by decide +kernel
theorem dX10_freePair_8 : decode cX10_freePair 8 = .ok (.if_icmp .ge 101, 3) := by decide +kernel
theorem dX10_freePair_11 : decode cX10_freePair 11 = .ok (.aload_n 0, 1) := by decide +kernel
theorem dX10_freePair_12 : decode cX10_freePair 12 = .ok (.iload_n 2, 1) := by decide +kernel
theorem dX10_freePair_13 : decode cX10_freePair 13 = .ok (.invokevirtual 204, 3) := by decide +kernel
theorem dX10_freePair_16 : decode cX10_freePair 16 = .ok (.ifCond .eq 87, 3) := by decide +kernel
theorem dX10_freePair_19 : decode cX10_freePair 19 = .ok (.aload_n 0, 1) := by decide +kernel
theorem dX10_freePair_20 : decode cX10_freePair 20 = .ok (.getfield 72, 3) := by decide +kernel
theorem dX10_freePair_23 : decode cX10_freePair 23 = .ok (.iload_n 2, 1) := by decide +kernel
theorem dX10_freePair_24 : decode cX10_freePair 24 = .ok (.iaload, 1) := by decide +kernel
theorem dX10_freePair_25 : decode cX10_freePair 25 = .ok (.ifCond .ne 78, 3) := by decide +kernel
theorem dX10_freePair_28 : decode cX10_freePair 28 = .ok (.iload_n 1, 1) := by decide +kernel
theorem dX10_freePair_29 : decode cX10_freePair 29 = .ok (.ifCond .lt 16, 3) := by decide +kernel
theorem dX10_freePair_32 : decode cX10_freePair 32 = .ok (.aload_n 0, 1) := by decide +kernel
theorem dX10_freePair_33 : decode cX10_freePair 33 = .ok (.iload_n 2, 1) := by decide +kernel
theorem dX10_freePair_34 : decode cX10_freePair 34 = .ok (.invokevirtual 207, 3) := by decide +kernel
theorem dX10_freePair_37 : decode cX10_freePair 37 = .ok (.aload_n 0, 1) := by decide +kernel
theorem dX10_freePair_38 : decode cX10_freePair 38 = .ok (.iload_n 1, 1) := by decide +kernel
theorem dX10_freePair_39 : decode cX10_freePair 39 = .ok (.invokevirtual 207, 3) := by decide +kernel
theorem dX10_freePair_42 : decode cX10_freePair 42 = .ok (.if_icmp .eq 23, 3) := by decide +kernel
theorem dX10_freePair_45 : decode cX10_freePair 45 = .ok (.iload_n 1, 1) := by decide +kernel
theorem dX10_freePair_46 : decode cX10_freePair 46 = .ok (.ifCond .lt 11, 3) := by decide +kernel
theorem dX10_freePair_49 : decode cX10_freePair 49 = .ok (.aload_n 0, 1) := by decide +kernel
theorem dX10_freePair_50 : decode cX10_freePair 50 = .ok (.iload_n 2, 1) := by decide +kernel
theorem dX10_freePair_51 : decode cX10_freePair 51 = .ok (.invokevirtual 207, 3) := by decide +kernel
theorem dX10_freePair_54 : decode cX10_freePair 54 = .ok (.ifCond .eq 7, 3) := by decide +kernel
theorem dX10_freePair_57 : decode cX10_freePair 57 = .ok (.iconst 1, 1) := by decide +kernel
theorem dX10_freePair_58 : decode cX10_freePair 58 = .ok (.goto 34, 3) := by decide +kernel
theorem dX10_freePair_61 : decode cX10_freePair 61 = .ok (.iconst 0, 1) := by decide +kernel
theorem dX10_freePair_62 : decode cX10_freePair 62 = .ok (.goto 30, 3) := by decide +kernel
theorem dX10_freePair_65 : decode cX10_freePair 65 = .ok (.aload_n 0, 1) := by decide +kernel
theorem dX10_freePair_66 : decode cX10_freePair 66 = .ok (.iload_n 2, 1) := by decide +kernel
theorem dX10_freePair_67 : decode cX10_freePair 67 = .ok (.invokevirtual 207, 3) := by decide +kernel
theorem dX10_freePair_70 : decode cX10_freePair 70 = .ok (.ifCond .eq 21, 3) := by decide +kernel
theorem dX10_freePair_73 : decode cX10_freePair 73 = .ok (.aload_n 0, 1) := by decide +kernel
theorem dX10_freePair_74 : decode cX10_freePair 74 = .ok (.iload_n 2, 1) := by decide +kernel
theorem dX10_freePair_75 : decode cX10_freePair 75 = .ok (.invokevirtual 197, 3) := by decide +kernel
theorem dX10_freePair_78 : decode cX10_freePair 78 = .ok (.aload_n 0, 1) := by decide +kernel
theorem dX10_freePair_79 : decode cX10_freePair 79 = .ok (.iload_n 1, 1) := by decide +kernel
theorem dX10_freePair_80 : decode cX10_freePair 80 = .ok (.invokevirtual 197, 3) := by decide +kernel
theorem dX10_freePair_83 : decode cX10_freePair 83 = .ok (.lcmp, 1) := by decide +kernel
theorem dX10_freePair_84 : decode cX10_freePair 84 = .ok (.ifCond .ge 7, 3) := by decide +kernel
theorem dX10_freePair_87 : decode cX10_freePair 87 = .ok (.iconst 1, 1) := by decide +kernel
theorem dX10_freePair_88 : decode cX10_freePair 88 = .ok (.goto 4, 3) := by decide +kernel
theorem dX10_freePair_91 : decode cX10_freePair 91 = .ok (.iconst 0, 1) := by decide +kernel
theorem dX10_freePair_92 : decode cX10_freePair 92 = .ok (.istore_n 3, 1) := by decide +kernel
theorem dX10_freePair_93 : decode cX10_freePair 93 = .ok (.iload_n 3, 1) := by decide +kernel
theorem dX10_freePair_94 : decode cX10_freePair 94 = .ok (.ifCond .eq 7, 3) := by decide +kernel
theorem dX10_freePair_97 : decode cX10_freePair 97 = .ok (.iload_n 2, 1) := by decide +kernel
theorem dX10_freePair_98 : decode cX10_freePair 98 = .ok (.goto 4, 3) := by decide +kernel
theorem dX10_freePair_101 : decode cX10_freePair 101 = .ok (.iload_n 1, 1) := by decide +kernel
theorem dX10_freePair_102 : decode cX10_freePair 102 = .ok (.istore_n 1, 1) := by decide +kernel
theorem dX10_freePair_103 : decode cX10_freePair 103 = .ok (.iinc 2 1, 3) := by decide +kernel
theorem dX10_freePair_106 : decode cX10_freePair 106 = .ok (.goto (-102), 3) := by decide +kernel
theorem dX10_freePair_109 : decode cX10_freePair 109 = .ok (.iload_n 1, 1) := by decide +kernel
theorem dX10_freePair_110 : decode cX10_freePair 110 = .ok (.ireturn, 1) := by decide +kernel
set_option maxRecDepth 20000 in
theorem ggX10_prove_X10_lit : GoodIn wsX10_prove wsX10_lit := goodIn_r _ [14, 15, 16, 139, 140, 141, 142, 143, 144, 145, 146, 147, 148, 149, 150, 151, 152, 153, 154, 155, 156, 157, 158, 159, 160, 161, 162, 163, 164, 165, 166, 167, 168, 169, 170, 171, 172, 173, 174] (by decide +kernel) (by decide +kernel)
set_option maxRecDepth 20000 in
theorem gX10_prove_X10_lit : GoodIn wsX10_prove (wsV RX10 142 RX10 yX10_lit wsX10_lit) := goodIn_app (goodIn_of _ (by decide +kernel)) ggX10_prove_X10_lit
set_option maxRecDepth 20000 in
theorem ggX10_prove_X10_freeAll : GoodIn wsX10_prove wsX10_freeAll := goodIn_r _ [20, 21, 139, 140, 141, 142, 143, 144, 145, 146, 147, 148, 149, 150, 151, 152, 153, 154, 155, 156, 157, 158, 159, 160, 161, 162, 163, 164, 165, 166, 167, 168, 169, 170, 171, 172, 173, 174] (by decide +kernel) (by decide +kernel)
set_option maxRecDepth 20000 in
theorem gX10_prove_X10_freeAll : GoodIn wsX10_prove (wsV RX10 231 RX10 yX10_freeAll wsX10_freeAll) := goodIn_app (goodIn_of _ (by decide +kernel)) ggX10_prove_X10_freeAll
set_option maxRecDepth 20000 in
theorem ggX10_prove_X10_pushCase : GoodIn wsX10_prove wsX10_pushCase := goodIn_r _ [25, 26, 2, 21, 139, 140, 141, 142, 143, 144, 145, 146, 147, 148, 149, 150, 151, 152, 153, 154, 155, 156, 157, 158, 159, 160, 161, 162, 163, 164, 165, 166, 167, 168, 169, 170, 171, 172, 173, 174] (by decide +kernel) (by decide +kernel)
set_option maxRecDepth 20000 in
theorem gX10_prove_X10_pushCase : GoodIn wsX10_prove (wsV RX10 264 RX10 yX10_pushCase wsX10_pushCase) := goodIn_app (goodIn_of _ (by decide +kernel)) ggX10_prove_X10_pushCase
set_option maxRecDepth 20000 in
theorem ggX10_prove_X10_popCase : GoodIn wsX10_prove wsX10_popCase := goodIn_r _ [30, 2, 21, 26, 139, 140, 141, 142, 143, 144, 145, 146, 147, 148, 149, 150, 151, 152, 153, 154, 155, 156, 157, 158, 159, 160, 161, 162, 163, 164, 165, 166, 167, 168, 169, 170, 171, 172, 173, 174] (by decide +kernel) (by decide +kernel)
set_option maxRecDepth 20000 in
theorem gX10_prove_X10_popCase : GoodIn wsX10_prove (wsV RX10 274 RX10 yX10_popCase wsX10_popCase) := goodIn_app (goodIn_of _ (by decide +kernel)) ggX10_prove_X10_popCase
set_option maxRecDepth 20000 in
theorem ggX10_prove_X10_ending : GoodIn wsX10_prove wsX10_ending := goodIn_r _ [34, 15, 35, 36, 37, 13, 38, 21, 39, 40, 41, 42, 16, 43, 44, 45, 46, 47, 48, 49, 50, 51, 52, 53, 54, 55, 56, 57, 58, 59, 60, 61, 62, 63, 64, 65, 66, 67, 68, 69, 70, 71, 72, 73, 74, 75, 76, 77, 78, 79, 80, 81, 82, 83, 84, 85, 86, 87, 88, 89, 90, 91, 92, 93, 94, 95, 96, 97, 98, 99, 100, 101, 102, 103, 104, 105, 106, 107, 108, 109, 110, 111, 112, 113, 114, 115, 116, 117, 118, 119, 120, 121, 122, 123, 124, 125, 126, 139, 140, 141, 142, 143, 144, 145, 146, 147, 148, 149, 150, 151, 152, 153, 154, 155, 156, 157, 158, 159, 160, 161, 162, 163, 164, 165, 166, 167, 168, 169, 170, 171, 172, 173, 174] (by decide +kernel) (by decide +kernel)
set_option maxRecDepth 20000 in
theorem gX10_prove_X10_ending : GoodIn wsX10_prove (wsV RX10 277 RX10 yX10_ending wsX10_ending) := goodIn_app (goodIn_of _ (by decide +kernel)) ggX10_prove_X10_ending
set_option maxRecDepth 20000 in
theorem ggX10_prove_X10_freePair : GoodIn wsX10_prove wsX10_freePair := goodIn_r _ [130, 21, 90, 91, 92, 13, 93, 39, 40, 41, 42, 16, 43, 44, 45, 46, 15, 94, 95, 96, 97, 53, 54, 55, 56, 57, 58, 59, 102, 103, 104, 105, 80, 139, 140, 141, 142, 143, 144, 145, 146, 147, 148, 149, 150, 151, 152, 153, 154, 155, 156, 157, 158, 159, 160, 161, 162, 163, 164, 165, 166, 167, 168, 169, 170, 171, 172, 173, 174] (by decide +kernel) (by decide +kernel)
set_option maxRecDepth 20000 in
theorem gX10_prove_X10_freePair : GoodIn wsX10_prove (wsV RX10 280 RX10 yX10_freePair wsX10_freePair) := goodIn_app (goodIn_of _ (by decide +kernel)) ggX10_prove_X10_freePair
set_option maxRecDepth 20000 in
theorem ggX10_prove_X10_write_ : GoodIn wsX10_prove wsX10_write_ := goodIn_r _ [134, 1, 5, 7, 9, 139, 140, 141, 142, 143, 144, 145, 146, 147, 148, 149, 150, 151, 152, 153, 154, 155, 156, 157, 158, 159, 160, 161, 162, 163, 164, 165, 166, 167, 168, 169, 170, 171, 172, 173, 174] (by decide +kernel) (by decide +kernel)
set_option maxRecDepth 20000 in
theorem gX10_prove_X10_write_ : GoodIn wsX10_prove (wsV RX10 283 RX10 yX10_write_ wsX10_write_) := goodIn_app (goodIn_of _ (by decide +kernel)) ggX10_prove_X10_write_
set_option maxRecDepth 20000 in
theorem ggX10_prove_X10_part : GoodIn wsX10_prove wsX10_part := goodIn_r _ [138, 21, 60, 61, 13, 62, 22, 23, 24, 25, 26, 2, 139, 140, 141, 142, 143, 144, 145, 146, 147, 148, 149, 150, 151, 152, 153, 154, 155, 156, 157, 158, 159, 160, 161, 162, 163, 164, 165, 166, 167, 168, 169, 170, 171, 172, 173, 174] (by decide +kernel) (by decide +kernel)
set_option maxRecDepth 20000 in
theorem gX10_prove_X10_part : GoodIn wsX10_prove (wsV RX10 286 RX10 yX10_part wsX10_part) := goodIn_app (goodIn_of _ (by decide +kernel)) ggX10_prove_X10_part
theorem dX10_prove_0 : decode cX10_prove 0 = .ok (.iload_n 1, 1) := by decide +kernel
theorem dX10_prove_1 : decode cX10_prove 1 = .ok (.ifCond .ge 5, 3) := by decide +kernel
theorem dX10_prove_4 : decode cX10_prove 4 = .ok (.iconst (-1), 1) := by decide +kernel
theorem dX10_prove_5 : decode cX10_prove 5 = .ok (.ireturn, 1) := by decide +kernel
theorem dX10_prove_6 : decode cX10_prove 6 = .ok (.aload_n 0, 1) := by decide +kernel
theorem dX10_prove_7 : decode cX10_prove 7 = .ok (.invokevirtual 142, 3) := by decide +kernel
theorem dX10_prove_10 : decode cX10_prove 10 = .ok (.iconst 3, 1) := by decide +kernel
theorem dX10_prove_11 : decode cX10_prove 11 = .ok (.if_icmp .ge 6, 3) := by decide +kernel
theorem dX10_prove_14 : decode cX10_prove 14 = .ok (.bipush (-4), 2) := by decide +kernel
theorem dX10_prove_16 : decode cX10_prove 16 = .ok (.ireturn, 1) := by decide +kernel
theorem dX10_prove_17 : decode cX10_prove 17 = .ok (.aload_n 0, 1) := by decide +kernel
theorem dX10_prove_18 : decode cX10_prove 18 = .ok (.iconst 0, 1) := by decide +kernel
theorem dX10_prove_19 : decode cX10_prove 19 = .ok (.putfield 267, 3) := by decide +kernel
theorem dX10_prove_22 : decode cX10_prove 22 = .ok (.aload_n 0, 1) := by decide +kernel
theorem dX10_prove_23 : decode cX10_prove 23 = .ok (.iconst 0, 1) := by decide +kernel
theorem dX10_prove_24 : decode cX10_prove 24 = .ok (.putfield 240, 3) := by decide +kernel
theorem dX10_prove_27 : decode cX10_prove 27 = .ok (.aload_n 0, 1) := by decide +kernel
theorem dX10_prove_28 : decode cX10_prove 28 = .ok (.invokevirtual 231, 3) := by decide +kernel
theorem dX10_prove_31 : decode cX10_prove 31 = .ok (.aload_n 0, 1) := by decide +kernel
theorem dX10_prove_32 : decode cX10_prove 32 = .ok (.invokevirtual 264, 3) := by decide +kernel
theorem dX10_prove_35 : decode cX10_prove 35 = .ok (.aload_n 0, 1) := by decide +kernel
theorem dX10_prove_36 : decode cX10_prove 36 = .ok (.getfield 240, 3) := by decide +kernel
theorem dX10_prove_39 : decode cX10_prove 39 = .ok (.ifCond .le 84, 3) := by decide +kernel
theorem dX10_prove_42 : decode cX10_prove 42 = .ok (.aload_n 0, 1) := by decide +kernel
theorem dX10_prove_43 : decode cX10_prove 43 = .ok (.invokevirtual 274, 3) := by decide +kernel
theorem dX10_prove_46 : decode cX10_prove 46 = .ok (.aload_n 0, 1) := by decide +kernel
theorem dX10_prove_47 : decode cX10_prove 47 = .ok (.iload_n 1, 1) := by decide +kernel
theorem dX10_prove_48 : decode cX10_prove 48 = .ok (.invokevirtual 277, 3) := by decide +kernel
theorem dX10_prove_51 : decode cX10_prove 51 = .ok (.istore_n 2, 1) := by decide +kernel
theorem dX10_prove_52 : decode cX10_prove 52 = .ok (.iload_n 2, 1) := by decide +kernel
theorem dX10_prove_53 : decode cX10_prove 53 = .ok (.ifCond .eq 11, 3) := by decide +kernel
theorem dX10_prove_56 : decode cX10_prove 56 = .ok (.iload_n 2, 1) := by decide +kernel
theorem dX10_prove_57 : decode cX10_prove 57 = .ok (.sipush 1000, 3) := by decide +kernel
theorem dX10_prove_60 : decode cX10_prove 60 = .ok (.irem, 1) := by decide +kernel
theorem dX10_prove_61 : decode cX10_prove 61 = .ok (.goto 7, 3) := by decide +kernel
theorem dX10_prove_64 : decode cX10_prove 64 = .ok (.aload_n 0, 1) := by decide +kernel
theorem dX10_prove_65 : decode cX10_prove 65 = .ok (.invokevirtual 280, 3) := by decide +kernel
theorem dX10_prove_68 : decode cX10_prove 68 = .ok (.istore_n 3, 1) := by decide +kernel
theorem dX10_prove_69 : decode cX10_prove 69 = .ok (.iload_n 3, 1) := by decide +kernel
theorem dX10_prove_70 : decode cX10_prove 70 = .ok (.ifCond .lt 31, 3) := by decide +kernel
theorem dX10_prove_73 : decode cX10_prove 73 = .ok (.aload_n 0, 1) := by decide +kernel
theorem dX10_prove_74 : decode cX10_prove 74 = .ok (.iload_n 2, 1) := by decide +kernel
theorem dX10_prove_75 : decode cX10_prove 75 = .ok (.ifCond .ne 7, 3) := by decide +kernel
theorem dX10_prove_78 : decode cX10_prove 78 = .ok (.iconst 1, 1) := by decide +kernel
theorem dX10_prove_79 : decode cX10_prove 79 = .ok (.goto 8, 3) := by decide +kernel
theorem dX10_prove_82 : decode cX10_prove 82 = .ok (.iload_n 2, 1) := by decide +kernel
theorem dX10_prove_83 : decode cX10_prove 83 = .ok (.sipush 1000, 3) := by decide +kernel
theorem dX10_prove_86 : decode cX10_prove 86 = .ok (.idiv, 1) := by decide +kernel
theorem dX10_prove_87 : decode cX10_prove 87 = .ok (.iload_n 3, 1) := by decide +kernel
theorem dX10_prove_88 : decode cX10_prove 88 = .ok (.bipush 12, 2) := by decide +kernel
theorem dX10_prove_90 : decode cX10_prove 90 = .ok (.idiv, 1) := by decide +kernel
theorem dX10_prove_91 : decode cX10_prove 91 = .ok (.iload_n 3, 1) := by decide +kernel
theorem dX10_prove_92 : decode cX10_prove 92 = .ok (.bipush 12, 2) := by decide +kernel
theorem dX10_prove_94 : decode cX10_prove 94 = .ok (.irem, 1) := by decide +kernel
theorem dX10_prove_95 : decode cX10_prove 95 = .ok (.invokevirtual 283, 3) := by decide +kernel
theorem dX10_prove_98 : decode cX10_prove 98 = .ok (.ifCond .ne 6, 3) := by decide +kernel
theorem dX10_prove_101 : decode cX10_prove 101 = .ok (.bipush (-9), 2) := by decide +kernel
theorem dX10_prove_103 : decode cX10_prove 103 = .ok (.ireturn, 1) := by decide +kernel
theorem dX10_prove_104 : decode cX10_prove 104 = .ok (.iload_n 2, 1) := by decide +kernel
theorem dX10_prove_105 : decode cX10_prove 105 = .ok (.ifCond .ne 15, 3) := by decide +kernel
theorem dX10_prove_108 : decode cX10_prove 108 = .ok (.aload_n 0, 1) := by decide +kernel
theorem dX10_prove_109 : decode cX10_prove 109 = .ok (.iload_n 3, 1) := by decide +kernel
theorem dX10_prove_110 : decode cX10_prove 110 = .ok (.bipush 12, 2) := by decide +kernel
theorem dX10_prove_112 : decode cX10_prove 112 = .ok (.idiv, 1) := by decide +kernel
theorem dX10_prove_113 : decode cX10_prove 113 = .ok (.iload_n 3, 1) := by decide +kernel
theorem dX10_prove_114 : decode cX10_prove 114 = .ok (.bipush 12, 2) := by decide +kernel
theorem dX10_prove_116 : decode cX10_prove 116 = .ok (.irem, 1) := by decide +kernel
theorem dX10_prove_117 : decode cX10_prove 117 = .ok (.invokevirtual 286, 3) := by decide +kernel
theorem dX10_prove_120 : decode cX10_prove 120 = .ok (.goto (-85), 3) := by decide +kernel
theorem dX10_prove_123 : decode cX10_prove 123 = .ok (.aload_n 0, 1) := by decide +kernel
theorem dX10_prove_124 : decode cX10_prove 124 = .ok (.aload_n 0, 1) := by decide +kernel
theorem dX10_prove_125 : decode cX10_prove 125 = .ok (.getfield 267, 3) := by decide +kernel
theorem dX10_prove_128 : decode cX10_prove 128 = .ok (.putfield 146, 3) := by decide +kernel
theorem dX10_prove_131 : decode cX10_prove 131 = .ok (.iconst 0, 1) := by decide +kernel
theorem dX10_prove_132 : decode cX10_prove 132 = .ok (.istore_n 2, 1) := by decide +kernel
theorem dX10_prove_133 : decode cX10_prove 133 = .ok (.iload_n 2, 1) := by decide +kernel
theorem dX10_prove_134 : decode cX10_prove 134 = .ok (.aload_n 0, 1) := by decide +kernel
theorem dX10_prove_135 : decode cX10_prove 135 = .ok (.getfield 267, 3) := by decide +kernel
theorem dX10_prove_138 : decode cX10_prove 138 = .ok (.if_icmp .ge 45, 3) := by decide +kernel
theorem dX10_prove_141 : decode cX10_prove 141 = .ok (.aload_n 0, 1) := by decide +kernel
theorem dX10_prove_142 : decode cX10_prove 142 = .ok (.getfield 54, 3) := by decide +kernel
theorem dX10_prove_145 : decode cX10_prove 145 = .ok (.iload_n 2, 1) := by decide +kernel
theorem dX10_prove_146 : decode cX10_prove 146 = .ok (.aload_n 0, 1) := by decide +kernel
theorem dX10_prove_147 : decode cX10_prove 147 = .ok (.getfield 90, 3) := by decide +kernel
theorem dX10_prove_150 : decode cX10_prove 150 = .ok (.iload_n 2, 1) := by decide +kernel
theorem dX10_prove_151 : decode cX10_prove 151 = .ok (.iaload, 1) := by decide +kernel
theorem dX10_prove_152 : decode cX10_prove 152 = .ok (.iastore, 1) := by decide +kernel
theorem dX10_prove_153 : decode cX10_prove 153 = .ok (.aload_n 0, 1) := by decide +kernel
theorem dX10_prove_154 : decode cX10_prove 154 = .ok (.getfield 57, 3) := by decide +kernel
theorem dX10_prove_157 : decode cX10_prove 157 = .ok (.iload_n 2, 1) := by decide +kernel
theorem dX10_prove_158 : decode cX10_prove 158 = .ok (.aload_n 0, 1) := by decide +kernel
theorem dX10_prove_159 : decode cX10_prove 159 = .ok (.getfield 93, 3) := by decide +kernel
theorem dX10_prove_162 : decode cX10_prove 162 = .ok (.iload_n 2, 1) := by decide +kernel
theorem dX10_prove_163 : decode cX10_prove 163 = .ok (.iaload, 1) := by decide +kernel
theorem dX10_prove_164 : decode cX10_prove 164 = .ok (.iastore, 1) := by decide +kernel
theorem dX10_prove_165 : decode cX10_prove 165 = .ok (.aload_n 0, 1) := by decide +kernel
theorem dX10_prove_166 : decode cX10_prove 166 = .ok (.getfield 60, 3) := by decide +kernel
theorem dX10_prove_169 : decode cX10_prove 169 = .ok (.iload_n 2, 1) := by decide +kernel
theorem dX10_prove_170 : decode cX10_prove 170 = .ok (.aload_n 0, 1) := by decide +kernel
theorem dX10_prove_171 : decode cX10_prove 171 = .ok (.getfield 96, 3) := by decide +kernel
theorem dX10_prove_174 : decode cX10_prove 174 = .ok (.iload_n 2, 1) := by decide +kernel
theorem dX10_prove_175 : decode cX10_prove 175 = .ok (.iaload, 1) := by decide +kernel
theorem dX10_prove_176 : decode cX10_prove 176 = .ok (.iastore, 1) := by decide +kernel
theorem dX10_prove_177 : decode cX10_prove 177 = .ok (.iinc 2 1, 3) := by decide +kernel
theorem dX10_prove_180 : decode cX10_prove 180 = .ok (.goto (-47), 3) := by decide +kernel
theorem dX10_prove_183 : decode cX10_prove 183 = .ok (.aload_n 0, 1) := by decide +kernel
theorem dX10_prove_184 : decode cX10_prove 184 = .ok (.getfield 146, 3) := by decide +kernel
theorem dX10_prove_187 : decode cX10_prove 187 = .ok (.ireturn, 1) := by decide +kernel
set_option maxRecDepth 20000 in
theorem ggX10_line_X10_alter : GoodIn wsX10_line wsX10_alter := goodIn_r _ [6, 1, 7, 8, 9, 10, 11, 12, 13, 14, 15, 16, 17, 18, 19, 20, 21, 22, 23, 24, 25, 26, 27, 28, 29, 30, 31, 32, 33, 34, 35, 36, 37, 38, 39, 40, 41, 42, 43, 44, 45] (by decide +kernel) (by decide +kernel)
set_option maxRecDepth 20000 in
theorem gX10_line_X10_alter : GoodIn wsX10_line (wsV RX10 289 RX10 yX10_alter wsX10_alter) := goodIn_app (goodIn_of _ (by decide +kernel)) ggX10_line_X10_alter
theorem dX10_line_0 : decode cX10_line 0 = .ok (.iload_n 1, 1) := by decide +kernel
theorem dX10_line_1 : decode cX10_line 1 = .ok (.iconst 1, 1) := by decide +kernel
theorem dX10_line_2 : decode cX10_line 2 = .ok (.if_icmp .lt 9, 3) := by decide +kernel
theorem dX10_line_5 : decode cX10_line 5 = .ok (.iload_n 1, 1) := by decide +kernel
theorem dX10_line_6 : decode cX10_line 6 = .ok (.bipush 6, 2) := by decide +kernel
theorem dX10_line_8 : decode cX10_line 8 = .ok (.if_icmp .le 5, 3) := by decide +kernel
theorem dX10_line_11 : decode cX10_line 11 = .ok (.iconst (-1), 1) := by decide +kernel
theorem dX10_line_12 : decode cX10_line 12 = .ok (.ireturn, 1) := by decide +kernel
theorem dX10_line_13 : decode cX10_line 13 = .ok (.aload_n 0, 1) := by decide +kernel
theorem dX10_line_14 : decode cX10_line 14 = .ok (.getfield 146, 3) := by decide +kernel
theorem dX10_line_17 : decode cX10_line 17 = .ok (.sipush 400, 3) := by decide +kernel
theorem dX10_line_20 : decode cX10_line 20 = .ok (.if_icmp .ne 6, 3) := by decide +kernel
theorem dX10_line_23 : decode cX10_line 23 = .ok (.bipush (-2), 2) := by decide +kernel
theorem dX10_line_25 : decode cX10_line 25 = .ok (.ireturn, 1) := by decide +kernel
theorem dX10_line_26 : decode cX10_line 26 = .ok (.aload_n 0, 1) := by decide +kernel
theorem dX10_line_27 : decode cX10_line 27 = .ok (.dup, 1) := by decide +kernel
theorem dX10_line_28 : decode cX10_line 28 = .ok (.getfield 146, 3) := by decide +kernel
theorem dX10_line_31 : decode cX10_line 31 = .ok (.iconst 1, 1) := by decide +kernel
theorem dX10_line_32 : decode cX10_line 32 = .ok (.iadd, 1) := by decide +kernel
theorem dX10_line_33 : decode cX10_line 33 = .ok (.putfield 146, 3) := by decide +kernel
theorem dX10_line_36 : decode cX10_line 36 = .ok (.aload_n 0, 1) := by decide +kernel
theorem dX10_line_37 : decode cX10_line 37 = .ok (.aload_n 0, 1) := by decide +kernel
theorem dX10_line_38 : decode cX10_line 38 = .ok (.getfield 146, 3) := by decide +kernel
theorem dX10_line_41 : decode cX10_line 41 = .ok (.iconst 1, 1) := by decide +kernel
theorem dX10_line_42 : decode cX10_line 42 = .ok (.isub, 1) := by decide +kernel
theorem dX10_line_43 : decode cX10_line 43 = .ok (.iload_n 1, 1) := by decide +kernel
theorem dX10_line_44 : decode cX10_line 44 = .ok (.iload_n 2, 1) := by decide +kernel
theorem dX10_line_45 : decode cX10_line 45 = .ok (.iload_n 3, 1) := by decide +kernel
theorem dX10_line_46 : decode cX10_line 46 = .ok (.invokevirtual 289, 3) := by decide +kernel
theorem dX10_line_49 : decode cX10_line 49 = .ok (.iconst 1, 1) := by decide +kernel
theorem dX10_line_50 : decode cX10_line 50 = .ok (.if_icmp .ne 10, 3) := by decide +kernel
theorem dX10_line_53 : decode cX10_line 53 = .ok (.aload_n 0, 1) := by decide +kernel
theorem dX10_line_54 : decode cX10_line 54 = .ok (.getfield 146, 3) := by decide +kernel
theorem dX10_line_57 : decode cX10_line 57 = .ok (.goto 4, 3) := by decide +kernel
theorem dX10_line_60 : decode cX10_line 60 = .ok (.iconst (-1), 1) := by decide +kernel
theorem dX10_line_61 : decode cX10_line 61 = .ok (.ireturn, 1) := by decide +kernel
theorem dX10_alter_0 : decode cX10_alter 0 = .ok (.iload_n 1, 1) := by decide +kernel
theorem dX10_alter_1 : decode cX10_alter 1 = .ok (.ifCond .lt 22, 3) := by decide +kernel
theorem dX10_alter_4 : decode cX10_alter 4 = .ok (.iload_n 1, 1) := by decide +kernel
theorem dX10_alter_5 : decode cX10_alter 5 = .ok (.aload_n 0, 1) := by decide +kernel
theorem dX10_alter_6 : decode cX10_alter 6 = .ok (.getfield 146, 3) := by decide +kernel
theorem dX10_alter_9 : decode cX10_alter 9 = .ok (.if_icmp .ge 14, 3) := by decide +kernel
theorem dX10_alter_12 : decode cX10_alter 12 = .ok (.iload_n 2, 1) := by decide +kernel
theorem dX10_alter_13 : decode cX10_alter 13 = .ok (.iconst 1, 1) := by decide +kernel
theorem dX10_alter_14 : decode cX10_alter 14 = .ok (.if_icmp .lt 9, 3) := by decide +kernel
theorem dX10_alter_17 : decode cX10_alter 17 = .ok (.iload_n 2, 1) := by decide +kernel
theorem dX10_alter_18 : decode cX10_alter 18 = .ok (.bipush 6, 2) := by decide +kernel
theorem dX10_alter_20 : decode cX10_alter 20 = .ok (.if_icmp .le 5, 3) := by decide +kernel
theorem dX10_alter_23 : decode cX10_alter 23 = .ok (.iconst (-1), 1) := by decide +kernel
theorem dX10_alter_24 : decode cX10_alter 24 = .ok (.ireturn, 1) := by decide +kernel
theorem dX10_alter_25 : decode cX10_alter 25 = .ok (.aload_n 0, 1) := by decide +kernel
theorem dX10_alter_26 : decode cX10_alter 26 = .ok (.getfield 54, 3) := by decide +kernel
theorem dX10_alter_29 : decode cX10_alter 29 = .ok (.iload_n 1, 1) := by decide +kernel
theorem dX10_alter_30 : decode cX10_alter 30 = .ok (.iload_n 2, 1) := by decide +kernel
theorem dX10_alter_31 : decode cX10_alter 31 = .ok (.iastore, 1) := by decide +kernel
theorem dX10_alter_32 : decode cX10_alter 32 = .ok (.aload_n 0, 1) := by decide +kernel
theorem dX10_alter_33 : decode cX10_alter 33 = .ok (.getfield 57, 3) := by decide +kernel
theorem dX10_alter_36 : decode cX10_alter 36 = .ok (.iload_n 1, 1) := by decide +kernel
theorem dX10_alter_37 : decode cX10_alter 37 = .ok (.iload_n 3, 1) := by decide +kernel
theorem dX10_alter_38 : decode cX10_alter 38 = .ok (.iastore, 1) := by decide +kernel
theorem dX10_alter_39 : decode cX10_alter 39 = .ok (.aload_n 0, 1) := by decide +kernel
theorem dX10_alter_40 : decode cX10_alter 40 = .ok (.getfield 60, 3) := by decide +kernel
theorem dX10_alter_43 : decode cX10_alter 43 = .ok (.iload_n 1, 1) := by decide +kernel
theorem dX10_alter_44 : decode cX10_alter 44 = .ok (.iload 4, 2) := by decide +kernel
theorem dX10_alter_46 : decode cX10_alter 46 = .ok (.iastore, 1) := by decide +kernel
theorem dX10_alter_47 : decode cX10_alter 47 = .ok (.iconst 1, 1) := by decide +kernel
theorem dX10_alter_48 : decode cX10_alter 48 = .ok (.ireturn, 1) := by decide +kernel
theorem dX10_cut_0 : decode cX10_cut 0 = .ok (.iload_n 1, 1) := by decide +kernel
theorem dX10_cut_1 : decode cX10_cut 1 = .ok (.ifCond .lt 11, 3) := by decide +kernel
theorem dX10_cut_4 : decode cX10_cut 4 = .ok (.iload_n 1, 1) := by decide +kernel
theorem dX10_cut_5 : decode cX10_cut 5 = .ok (.aload_n 0, 1) := by decide +kernel
theorem dX10_cut_6 : decode cX10_cut 6 = .ok (.getfield 146, 3) := by decide +kernel
theorem dX10_cut_9 : decode cX10_cut 9 = .ok (.if_icmp .le 5, 3) := by decide +kernel
theorem dX10_cut_12 : decode cX10_cut 12 = .ok (.iconst (-1), 1) := by decide +kernel
theorem dX10_cut_13 : decode cX10_cut 13 = .ok (.ireturn, 1) := by decide +kernel
theorem dX10_cut_14 : decode cX10_cut 14 = .ok (.aload_n 0, 1) := by decide +kernel
theorem dX10_cut_15 : decode cX10_cut 15 = .ok (.iload_n 1, 1) := by decide +kernel
theorem dX10_cut_16 : decode cX10_cut 16 = .ok (.putfield 146, 3) := by decide +kernel
theorem dX10_cut_19 : decode cX10_cut 19 = .ok (.iload_n 1, 1) := by decide +kernel
theorem dX10_cut_20 : decode cX10_cut 20 = .ok (.ireturn, 1) := by decide +kernel
theorem dX10_shown_0 : decode cX10_shown 0 = .ok (.iload_n 1, 1) := by decide +kernel
theorem dX10_shown_1 : decode cX10_shown 1 = .ok (.ifCond .lt 20, 3) := by decide +kernel
theorem dX10_shown_4 : decode cX10_shown 4 = .ok (.iload_n 1, 1) := by decide +kernel
theorem dX10_shown_5 : decode cX10_shown 5 = .ok (.aload_n 0, 1) := by decide +kernel
theorem dX10_shown_6 : decode cX10_shown 6 = .ok (.getfield 146, 3) := by decide +kernel
theorem dX10_shown_9 : decode cX10_shown 9 = .ok (.if_icmp .ge 12, 3) := by decide +kernel
theorem dX10_shown_12 : decode cX10_shown 12 = .ok (.iload_n 2, 1) := by decide +kernel
theorem dX10_shown_13 : decode cX10_shown 13 = .ok (.ifCond .lt 8, 3) := by decide +kernel
theorem dX10_shown_16 : decode cX10_shown 16 = .ok (.iload_n 2, 1) := by decide +kernel
theorem dX10_shown_17 : decode cX10_shown 17 = .ok (.iconst 2, 1) := by decide +kernel
theorem dX10_shown_18 : decode cX10_shown 18 = .ok (.if_icmp .le 6, 3) := by decide +kernel
theorem dX10_shown_21 : decode cX10_shown 21 = .ok (.ldc 141, 2) := by decide +kernel
theorem dX10_shown_23 : decode cX10_shown 23 = .ok (.ireturn, 1) := by decide +kernel
theorem dX10_shown_24 : decode cX10_shown 24 = .ok (.iload_n 2, 1) := by decide +kernel
theorem dX10_shown_25 : decode cX10_shown 25 = .ok (.ifCond .ne 12, 3) := by decide +kernel
theorem dX10_shown_28 : decode cX10_shown 28 = .ok (.aload_n 0, 1) := by decide +kernel
theorem dX10_shown_29 : decode cX10_shown 29 = .ok (.getfield 54, 3) := by decide +kernel
theorem dX10_shown_32 : decode cX10_shown 32 = .ok (.iload_n 1, 1) := by decide +kernel
theorem dX10_shown_33 : decode cX10_shown 33 = .ok (.iaload, 1) := by decide +kernel
theorem dX10_shown_34 : decode cX10_shown 34 = .ok (.goto 23, 3) := by decide +kernel
theorem dX10_shown_37 : decode cX10_shown 37 = .ok (.iload_n 2, 1) := by decide +kernel
theorem dX10_shown_38 : decode cX10_shown 38 = .ok (.iconst 1, 1) := by decide +kernel
theorem dX10_shown_39 : decode cX10_shown 39 = .ok (.if_icmp .ne 12, 3) := by decide +kernel
theorem dX10_shown_42 : decode cX10_shown 42 = .ok (.aload_n 0, 1) := by decide +kernel
theorem dX10_shown_43 : decode cX10_shown 43 = .ok (.getfield 57, 3) := by decide +kernel
theorem dX10_shown_46 : decode cX10_shown 46 = .ok (.iload_n 1, 1) := by decide +kernel
theorem dX10_shown_47 : decode cX10_shown 47 = .ok (.iaload, 1) := by decide +kernel
theorem dX10_shown_48 : decode cX10_shown 48 = .ok (.goto 9, 3) := by decide +kernel
theorem dX10_shown_51 : decode cX10_shown 51 = .ok (.aload_n 0, 1) := by decide +kernel
theorem dX10_shown_52 : decode cX10_shown 52 = .ok (.getfield 60, 3) := by decide +kernel
theorem dX10_shown_55 : decode cX10_shown 55 = .ok (.iload_n 1, 1) := by decide +kernel
theorem dX10_shown_56 : decode cX10_shown 56 = .ok (.iaload, 1) := by decide +kernel
theorem dX10_shown_57 : decode cX10_shown 57 = .ok (.ireturn, 1) := by decide +kernel
set_option maxRecDepth 20000 in
theorem ggX10_check_X10_lit : GoodIn wsX10_check wsX10_lit := goodIn_r _ [10, 11, 12, 123, 124, 125, 126, 127, 128, 129, 130, 131, 132, 133, 134, 135, 136, 137, 138, 139, 140, 141, 142, 143, 144, 145, 146, 147, 148, 149, 150, 151, 152, 153, 154, 155, 156, 157, 158] (by decide +kernel) (by decide +kernel)
set_option maxRecDepth 20000 in
theorem gX10_check_X10_lit : GoodIn wsX10_check (wsV RX10 142 RX10 yX10_lit wsX10_lit) := goodIn_app (goodIn_of _ (by decide +kernel)) ggX10_check_X10_lit
set_option maxRecDepth 20000 in
theorem ggX10_check_X10_freeAll : GoodIn wsX10_check wsX10_freeAll := goodIn_r _ [16, 17, 123, 124, 125, 126, 127, 128, 129, 130, 131, 132, 133, 134, 135, 136, 137, 138, 139, 140, 141, 142, 143, 144, 145, 146, 147, 148, 149, 150, 151, 152, 153, 154, 155, 156, 157, 158] (by decide +kernel) (by decide +kernel)
set_option maxRecDepth 20000 in
theorem gX10_check_X10_freeAll : GoodIn wsX10_check (wsV RX10 231 RX10 yX10_freeAll wsX10_freeAll) := goodIn_app (goodIn_of _ (by decide +kernel)) ggX10_check_X10_freeAll
set_option maxRecDepth 20000 in
theorem ggX10_check_X10_pushCase : GoodIn wsX10_check wsX10_pushCase := goodIn_r _ [21, 22, 1, 17, 123, 124, 125, 126, 127, 128, 129, 130, 131, 132, 133, 134, 135, 136, 137, 138, 139, 140, 141, 142, 143, 144, 145, 146, 147, 148, 149, 150, 151, 152, 153, 154, 155, 156, 157, 158] (by decide +kernel) (by decide +kernel)
set_option maxRecDepth 20000 in
theorem gX10_check_X10_pushCase : GoodIn wsX10_check (wsV RX10 264 RX10 yX10_pushCase wsX10_pushCase) := goodIn_app (goodIn_of _ (by decide +kernel)) ggX10_check_X10_pushCase
set_option maxRecDepth 20000 in
theorem ggX10_check_X10_popCase : GoodIn wsX10_check wsX10_popCase := goodIn_r _ [26, 1, 17, 22, 123, 124, 125, 126, 127, 128, 129, 130, 131, 132, 133, 134, 135, 136, 137, 138, 139, 140, 141, 142, 143, 144, 145, 146, 147, 148, 149, 150, 151, 152, 153, 154, 155, 156, 157, 158] (by decide +kernel) (by decide +kernel)
set_option maxRecDepth 20000 in
theorem gX10_check_X10_popCase : GoodIn wsX10_check (wsV RX10 274 RX10 yX10_popCase wsX10_popCase) := goodIn_app (goodIn_of _ (by decide +kernel)) ggX10_check_X10_popCase
set_option maxRecDepth 20000 in
theorem ggX10_check_X10_stands : GoodIn wsX10_check wsX10_stands := goodIn_r _ [30, 31, 32, 33, 9, 34, 17, 35, 36, 37, 38, 12, 39, 40, 41, 42, 11, 43, 44, 45, 46, 47, 48, 49, 50, 51, 52, 53, 54, 55, 56, 57, 58, 59, 60, 61, 62, 63, 64, 65, 66, 67, 68, 69, 70, 71, 72, 73, 74, 75, 76, 77, 78, 79, 80, 81, 82, 83, 84, 85, 86, 87, 88, 89, 90, 91, 92, 93, 94, 95, 96, 97, 98, 99, 100, 101, 102, 103, 104, 105, 106, 107, 108, 109, 110, 111, 112, 113, 114, 115, 116, 117, 118, 123, 124, 125, 126, 127, 128, 129, 130, 131, 132, 133, 134, 135, 136, 137, 138, 139, 140, 141, 142, 143, 144, 145, 146, 147, 148, 149, 150, 151, 152, 153, 154, 155, 156, 157, 158] (by decide +kernel) (by decide +kernel)
set_option maxRecDepth 20000 in
theorem gX10_check_X10_stands : GoodIn wsX10_check (wsV RX10 270 RX10 yX10_stands wsX10_stands) := goodIn_app (goodIn_of _ (by decide +kernel)) ggX10_check_X10_stands
set_option maxRecDepth 20000 in
theorem ggX10_check_X10_part : GoodIn wsX10_check wsX10_part := goodIn_r _ [122, 17, 43, 44, 9, 45, 18, 19, 20, 21, 22, 1, 123, 124, 125, 126, 127, 128, 129, 130, 131, 132, 133, 134, 135, 136, 137, 138, 139, 140, 141, 142, 143, 144, 145, 146, 147, 148, 149, 150, 151, 152, 153, 154, 155, 156, 157, 158] (by decide +kernel) (by decide +kernel)
set_option maxRecDepth 20000 in
theorem gX10_check_X10_part : GoodIn wsX10_check (wsV RX10 286 RX10 yX10_part wsX10_part) := goodIn_app (goodIn_of _ (by decide +kernel)) ggX10_check_X10_part
theorem dX10_check_0 : decode cX10_check 0 = .ok (.iload_n 1, 1) := by decide +kernel
theorem dX10_check_1 : decode cX10_check 1 = .ok (.ifCond .ge 6, 3) := by decide +kernel
theorem dX10_check_4 : decode cX10_check 4 = .ok (.bipush (-2), 2) := by decide +kernel
theorem dX10_check_6 : decode cX10_check 6 = .ok (.ireturn, 1) := by decide +kernel
theorem dX10_check_7 : decode cX10_check 7 = .ok (.aload_n 0, 1) := by decide +kernel
theorem dX10_check_8 : decode cX10_check 8 = .ok (.invokevirtual 142, 3) := by decide +kernel
theorem dX10_check_11 : decode cX10_check 11 = .ok (.iconst 3, 1) := by decide +kernel
theorem dX10_check_12 : decode cX10_check 12 = .ok (.if_icmp .ge 6, 3) := by decide +kernel
theorem dX10_check_15 : decode cX10_check 15 = .ok (.bipush (-4), 2) := by decide +kernel
theorem dX10_check_17 : decode cX10_check 17 = .ok (.ireturn, 1) := by decide +kernel
theorem dX10_check_18 : decode cX10_check 18 = .ok (.aload_n 0, 1) := by decide +kernel
theorem dX10_check_19 : decode cX10_check 19 = .ok (.iconst 0, 1) := by decide +kernel
theorem dX10_check_20 : decode cX10_check 20 = .ok (.putfield 240, 3) := by decide +kernel
theorem dX10_check_23 : decode cX10_check 23 = .ok (.aload_n 0, 1) := by decide +kernel
theorem dX10_check_24 : decode cX10_check 24 = .ok (.invokevirtual 231, 3) := by decide +kernel
theorem dX10_check_27 : decode cX10_check 27 = .ok (.aload_n 0, 1) := by decide +kernel
theorem dX10_check_28 : decode cX10_check 28 = .ok (.invokevirtual 264, 3) := by decide +kernel
theorem dX10_check_31 : decode cX10_check 31 = .ok (.iconst 0, 1) := by decide +kernel
theorem dX10_check_32 : decode cX10_check 32 = .ok (.istore_n 2, 1) := by decide +kernel
theorem dX10_check_33 : decode cX10_check 33 = .ok (.aload_n 0, 1) := by decide +kernel
theorem dX10_check_34 : decode cX10_check 34 = .ok (.getfield 240, 3) := by decide +kernel
theorem dX10_check_37 : decode cX10_check 37 = .ok (.ifCond .le 75, 3) := by decide +kernel
theorem dX10_check_40 : decode cX10_check 40 = .ok (.iload_n 2, 1) := by decide +kernel
theorem dX10_check_41 : decode cX10_check 41 = .ok (.aload_n 0, 1) := by decide +kernel
theorem dX10_check_42 : decode cX10_check 42 = .ok (.getfield 146, 3) := by decide +kernel
theorem dX10_check_45 : decode cX10_check 45 = .ok (.if_icmp .ge 67, 3) := by decide +kernel
theorem dX10_check_48 : decode cX10_check 48 = .ok (.aload_n 0, 1) := by decide +kernel
theorem dX10_check_49 : decode cX10_check 49 = .ok (.invokevirtual 274, 3) := by decide +kernel
theorem dX10_check_52 : decode cX10_check 52 = .ok (.aload_n 0, 1) := by decide +kernel
theorem dX10_check_53 : decode cX10_check 53 = .ok (.aload_n 0, 1) := by decide +kernel
theorem dX10_check_54 : decode cX10_check 54 = .ok (.getfield 54, 3) := by decide +kernel
theorem dX10_check_57 : decode cX10_check 57 = .ok (.iload_n 2, 1) := by decide +kernel
theorem dX10_check_58 : decode cX10_check 58 = .ok (.iaload, 1) := by decide +kernel
theorem dX10_check_59 : decode cX10_check 59 = .ok (.aload_n 0, 1) := by decide +kernel
theorem dX10_check_60 : decode cX10_check 60 = .ok (.getfield 57, 3) := by decide +kernel
theorem dX10_check_63 : decode cX10_check 63 = .ok (.iload_n 2, 1) := by decide +kernel
theorem dX10_check_64 : decode cX10_check 64 = .ok (.iaload, 1) := by decide +kernel
theorem dX10_check_65 : decode cX10_check 65 = .ok (.aload_n 0, 1) := by decide +kernel
theorem dX10_check_66 : decode cX10_check 66 = .ok (.getfield 60, 3) := by decide +kernel
theorem dX10_check_69 : decode cX10_check 69 = .ok (.iload_n 2, 1) := by decide +kernel
theorem dX10_check_70 : decode cX10_check 70 = .ok (.iaload, 1) := by decide +kernel
theorem dX10_check_71 : decode cX10_check 71 = .ok (.iload_n 1, 1) := by decide +kernel
theorem dX10_check_72 : decode cX10_check 72 = .ok (.invokevirtual 270, 3) := by decide +kernel
theorem dX10_check_75 : decode cX10_check 75 = .ok (.ifCond .ne 5, 3) := by decide +kernel
theorem dX10_check_78 : decode cX10_check 78 = .ok (.iload_n 2, 1) := by decide +kernel
theorem dX10_check_79 : decode cX10_check 79 = .ok (.ireturn, 1) := by decide +kernel
theorem dX10_check_80 : decode cX10_check 80 = .ok (.aload_n 0, 1) := by decide +kernel
theorem dX10_check_81 : decode cX10_check 81 = .ok (.getfield 54, 3) := by decide +kernel
theorem dX10_check_84 : decode cX10_check 84 = .ok (.iload_n 2, 1) := by decide +kernel
theorem dX10_check_85 : decode cX10_check 85 = .ok (.iaload, 1) := by decide +kernel
theorem dX10_check_86 : decode cX10_check 86 = .ok (.iconst 1, 1) := by decide +kernel
theorem dX10_check_87 : decode cX10_check 87 = .ok (.if_icmp .ne 19, 3) := by decide +kernel
theorem dX10_check_90 : decode cX10_check 90 = .ok (.aload_n 0, 1) := by decide +kernel
theorem dX10_check_91 : decode cX10_check 91 = .ok (.aload_n 0, 1) := by decide +kernel
theorem dX10_check_92 : decode cX10_check 92 = .ok (.getfield 57, 3) := by decide +kernel
theorem dX10_check_95 : decode cX10_check 95 = .ok (.iload_n 2, 1) := by decide +kernel
theorem dX10_check_96 : decode cX10_check 96 = .ok (.iaload, 1) := by decide +kernel
theorem dX10_check_97 : decode cX10_check 97 = .ok (.aload_n 0, 1) := by decide +kernel
theorem dX10_check_98 : decode cX10_check 98 = .ok (.getfield 60, 3) := by decide +kernel
theorem dX10_check_101 : decode cX10_check 101 = .ok (.iload_n 2, 1) := by decide +kernel
theorem dX10_check_102 : decode cX10_check 102 = .ok (.iaload, 1) := by decide +kernel
theorem dX10_check_103 : decode cX10_check 103 = .ok (.invokevirtual 286, 3) := by decide +kernel
theorem dX10_check_106 : decode cX10_check 106 = .ok (.iinc 2 1, 3) := by decide +kernel
theorem dX10_check_109 : decode cX10_check 109 = .ok (.goto (-76), 3) := by decide +kernel
theorem dX10_check_112 : decode cX10_check 112 = .ok (.aload_n 0, 1) := by decide +kernel
theorem dX10_check_113 : decode cX10_check 113 = .ok (.getfield 240, 3) := by decide +kernel
theorem dX10_check_116 : decode cX10_check 116 = .ok (.ifCond .gt 11, 3) := by decide +kernel
theorem dX10_check_119 : decode cX10_check 119 = .ok (.iload_n 2, 1) := by decide +kernel
theorem dX10_check_120 : decode cX10_check 120 = .ok (.aload_n 0, 1) := by decide +kernel
theorem dX10_check_121 : decode cX10_check 121 = .ok (.getfield 146, 3) := by decide +kernel
theorem dX10_check_124 : decode cX10_check 124 = .ok (.if_icmp .ge 7, 3) := by decide +kernel
theorem dX10_check_127 : decode cX10_check 127 = .ok (.iload_n 2, 1) := by decide +kernel
theorem dX10_check_128 : decode cX10_check 128 = .ok (.goto 4, 3) := by decide +kernel
theorem dX10_check_131 : decode cX10_check 131 = .ok (.iconst (-1), 1) := by decide +kernel
theorem dX10_check_132 : decode cX10_check 132 = .ok (.ireturn, 1) := by decide +kernel
theorem dJ6_bitCount_0f7a4_0 : decode cJ6_bitCount_0f7a4 0 = .ok (.iload_n 0, 1) := by decide +kernel
theorem dJ6_bitCount_0f7a4_1 : decode cJ6_bitCount_0f7a4 1 = .ok (.iload_n 0, 1) := by decide +kernel
theorem dJ6_bitCount_0f7a4_2 : decode cJ6_bitCount_0f7a4 2 = .ok (.iconst 1, 1) := by decide +kernel
theorem dJ6_bitCount_0f7a4_3 : decode cJ6_bitCount_0f7a4 3 = .ok (.iushr, 1) := by decide +kernel
theorem dJ6_bitCount_0f7a4_4 : decode cJ6_bitCount_0f7a4 4 = .ok (.ldc_w 265, 3) := by decide +kernel
theorem dJ6_bitCount_0f7a4_7 : decode cJ6_bitCount_0f7a4 7 = .ok (.iand, 1) := by decide +kernel
theorem dJ6_bitCount_0f7a4_8 : decode cJ6_bitCount_0f7a4 8 = .ok (.isub, 1) := by decide +kernel
theorem dJ6_bitCount_0f7a4_9 : decode cJ6_bitCount_0f7a4 9 = .ok (.istore_n 0, 1) := by decide +kernel
theorem dJ6_bitCount_0f7a4_10 : decode cJ6_bitCount_0f7a4 10 = .ok (.iload_n 0, 1) := by decide +kernel
theorem dJ6_bitCount_0f7a4_11 : decode cJ6_bitCount_0f7a4 11 = .ok (.ldc_w 266, 3) := by decide +kernel
theorem dJ6_bitCount_0f7a4_14 : decode cJ6_bitCount_0f7a4 14 = .ok (.iand, 1) := by decide +kernel
theorem dJ6_bitCount_0f7a4_15 : decode cJ6_bitCount_0f7a4 15 = .ok (.iload_n 0, 1) := by decide +kernel
theorem dJ6_bitCount_0f7a4_16 : decode cJ6_bitCount_0f7a4 16 = .ok (.iconst 2, 1) := by decide +kernel
theorem dJ6_bitCount_0f7a4_17 : decode cJ6_bitCount_0f7a4 17 = .ok (.iushr, 1) := by decide +kernel
theorem dJ6_bitCount_0f7a4_18 : decode cJ6_bitCount_0f7a4 18 = .ok (.ldc_w 266, 3) := by decide +kernel
theorem dJ6_bitCount_0f7a4_21 : decode cJ6_bitCount_0f7a4 21 = .ok (.iand, 1) := by decide +kernel
theorem dJ6_bitCount_0f7a4_22 : decode cJ6_bitCount_0f7a4 22 = .ok (.iadd, 1) := by decide +kernel
theorem dJ6_bitCount_0f7a4_23 : decode cJ6_bitCount_0f7a4 23 = .ok (.istore_n 0, 1) := by decide +kernel
theorem dJ6_bitCount_0f7a4_24 : decode cJ6_bitCount_0f7a4 24 = .ok (.iload_n 0, 1) := by decide +kernel
theorem dJ6_bitCount_0f7a4_25 : decode cJ6_bitCount_0f7a4 25 = .ok (.iload_n 0, 1) := by decide +kernel
theorem dJ6_bitCount_0f7a4_26 : decode cJ6_bitCount_0f7a4 26 = .ok (.iconst 4, 1) := by decide +kernel
theorem dJ6_bitCount_0f7a4_27 : decode cJ6_bitCount_0f7a4 27 = .ok (.iushr, 1) := by decide +kernel
theorem dJ6_bitCount_0f7a4_28 : decode cJ6_bitCount_0f7a4 28 = .ok (.iadd, 1) := by decide +kernel
theorem dJ6_bitCount_0f7a4_29 : decode cJ6_bitCount_0f7a4 29 = .ok (.ldc_w 267, 3) := by decide +kernel
theorem dJ6_bitCount_0f7a4_32 : decode cJ6_bitCount_0f7a4 32 = .ok (.iand, 1) := by decide +kernel
theorem dJ6_bitCount_0f7a4_33 : decode cJ6_bitCount_0f7a4 33 = .ok (.istore_n 0, 1) := by decide +kernel
theorem dJ6_bitCount_0f7a4_34 : decode cJ6_bitCount_0f7a4 34 = .ok (.iload_n 0, 1) := by decide +kernel
theorem dJ6_bitCount_0f7a4_35 : decode cJ6_bitCount_0f7a4 35 = .ok (.iload_n 0, 1) := by decide +kernel
theorem dJ6_bitCount_0f7a4_36 : decode cJ6_bitCount_0f7a4 36 = .ok (.bipush 8, 2) := by decide +kernel
theorem dJ6_bitCount_0f7a4_38 : decode cJ6_bitCount_0f7a4 38 = .ok (.iushr, 1) := by decide +kernel
theorem dJ6_bitCount_0f7a4_39 : decode cJ6_bitCount_0f7a4 39 = .ok (.iadd, 1) := by decide +kernel
theorem dJ6_bitCount_0f7a4_40 : decode cJ6_bitCount_0f7a4 40 = .ok (.istore_n 0, 1) := by decide +kernel
theorem dJ6_bitCount_0f7a4_41 : decode cJ6_bitCount_0f7a4 41 = .ok (.iload_n 0, 1) := by decide +kernel
theorem dJ6_bitCount_0f7a4_42 : decode cJ6_bitCount_0f7a4 42 = .ok (.iload_n 0, 1) := by decide +kernel
theorem dJ6_bitCount_0f7a4_43 : decode cJ6_bitCount_0f7a4 43 = .ok (.bipush 16, 2) := by decide +kernel
theorem dJ6_bitCount_0f7a4_45 : decode cJ6_bitCount_0f7a4 45 = .ok (.iushr, 1) := by decide +kernel
theorem dJ6_bitCount_0f7a4_46 : decode cJ6_bitCount_0f7a4 46 = .ok (.iadd, 1) := by decide +kernel
theorem dJ6_bitCount_0f7a4_47 : decode cJ6_bitCount_0f7a4 47 = .ok (.istore_n 0, 1) := by decide +kernel
theorem dJ6_bitCount_0f7a4_48 : decode cJ6_bitCount_0f7a4 48 = .ok (.iload_n 0, 1) := by decide +kernel
theorem dJ6_bitCount_0f7a4_49 : decode cJ6_bitCount_0f7a4 49 = .ok (.bipush 63, 2) := by decide +kernel
theorem dJ6_bitCount_0f7a4_51 : decode cJ6_bitCount_0f7a4 51 = .ok (.iand, 1) := by decide +kernel
theorem dJ6_bitCount_0f7a4_52 : decode cJ6_bitCount_0f7a4 52 = .ok (.ireturn, 1) := by decide +kernel
theorem dJ7_fill_d0a16_0 : decode cJ7_fill_d0a16 0 = .ok (.iconst 0, 1) := by decide +kernel
theorem dJ7_fill_d0a16_1 : decode cJ7_fill_d0a16 1 = .ok (.istore_n 3, 1) := by decide +kernel
theorem dJ7_fill_d0a16_2 : decode cJ7_fill_d0a16 2 = .ok (.aload_n 0, 1) := by decide +kernel
theorem dJ7_fill_d0a16_3 : decode cJ7_fill_d0a16 3 = .ok (.arraylength, 1) := by decide +kernel
theorem dJ7_fill_d0a16_4 : decode cJ7_fill_d0a16 4 = .ok (.istore 4, 2) := by decide +kernel
theorem dJ7_fill_d0a16_6 : decode cJ7_fill_d0a16 6 = .ok (.iload_n 3, 1) := by decide +kernel
theorem dJ7_fill_d0a16_7 : decode cJ7_fill_d0a16 7 = .ok (.iload 4, 2) := by decide +kernel
theorem dJ7_fill_d0a16_9 : decode cJ7_fill_d0a16 9 = .ok (.if_icmp .ge 13, 3) := by decide +kernel
theorem dJ7_fill_d0a16_12 : decode cJ7_fill_d0a16 12 = .ok (.aload_n 0, 1) := by decide +kernel
theorem dJ7_fill_d0a16_13 : decode cJ7_fill_d0a16 13 = .ok (.iload_n 3, 1) := by decide +kernel
theorem dJ7_fill_d0a16_14 : decode cJ7_fill_d0a16 14 = .ok (.lload_n 1, 1) := by decide +kernel
theorem dJ7_fill_d0a16_15 : decode cJ7_fill_d0a16 15 = .ok (.lastore, 1) := by decide +kernel
theorem dJ7_fill_d0a16_16 : decode cJ7_fill_d0a16 16 = .ok (.iinc 3 1, 3) := by decide +kernel
theorem dJ7_fill_d0a16_19 : decode cJ7_fill_d0a16 19 = .ok (.goto (-13), 3) := by decide +kernel
theorem dJ7_fill_d0a16_22 : decode cJ7_fill_d0a16 22 = .ok (.return_, 1) := by decide +kernel
theorem dJ7_fill_53178_0 : decode cJ7_fill_53178 0 = .ok (.iconst 0, 1) := by decide +kernel
theorem dJ7_fill_53178_1 : decode cJ7_fill_53178 1 = .ok (.istore_n 2, 1) := by decide +kernel
theorem dJ7_fill_53178_2 : decode cJ7_fill_53178 2 = .ok (.aload_n 0, 1) := by decide +kernel
theorem dJ7_fill_53178_3 : decode cJ7_fill_53178 3 = .ok (.arraylength, 1) := by decide +kernel
theorem dJ7_fill_53178_4 : decode cJ7_fill_53178 4 = .ok (.istore_n 3, 1) := by decide +kernel
theorem dJ7_fill_53178_5 : decode cJ7_fill_53178 5 = .ok (.iload_n 2, 1) := by decide +kernel
theorem dJ7_fill_53178_6 : decode cJ7_fill_53178 6 = .ok (.iload_n 3, 1) := by decide +kernel
theorem dJ7_fill_53178_7 : decode cJ7_fill_53178 7 = .ok (.if_icmp .ge 13, 3) := by decide +kernel
theorem dJ7_fill_53178_10 : decode cJ7_fill_53178 10 = .ok (.aload_n 0, 1) := by decide +kernel
theorem dJ7_fill_53178_11 : decode cJ7_fill_53178 11 = .ok (.iload_n 2, 1) := by decide +kernel
theorem dJ7_fill_53178_12 : decode cJ7_fill_53178 12 = .ok (.iload_n 1, 1) := by decide +kernel
theorem dJ7_fill_53178_13 : decode cJ7_fill_53178 13 = .ok (.iastore, 1) := by decide +kernel
theorem dJ7_fill_53178_14 : decode cJ7_fill_53178 14 = .ok (.iinc 2 1, 3) := by decide +kernel
theorem dJ7_fill_53178_17 : decode cJ7_fill_53178 17 = .ok (.goto (-12), 3) := by decide +kernel
theorem dJ7_fill_53178_20 : decode cJ7_fill_53178 20 = .ok (.return_, 1) := by decide +kernel
set_option maxRecDepth 20000 in
theorem ggL_law_X9_init : GoodIn wsL_law wsX9_init := goodIn_r _ [9, 10, 11, 12, 13, 14, 15, 16, 17, 18, 19, 20, 21, 22, 23, 24, 25, 26, 27, 28, 29, 30, 31, 32, 33, 34, 35, 36, 37, 38, 39, 40, 41, 42, 43, 44, 45, 46, 47, 48, 49, 50, 51, 52, 53, 54, 55, 56, 57, 58, 59, 60, 61, 62, 63, 64, 65, 66, 67, 68, 69, 70, 71, 72, 73, 74, 75, 76, 77, 78, 79, 80, 81, 82, 83, 84, 85, 86, 87, 88, 89, 90, 91, 92, 93, 94, 95, 96, 97, 98, 99, 100, 101, 102, 103, 104, 105, 106, 107, 108, 109, 110, 111, 112, 113, 114, 115, 116, 117, 118, 119, 120, 121, 122, 123, 124, 125, 126, 127, 128, 129, 130, 131, 132, 133, 134, 135, 136, 137, 138, 139, 140, 141, 142, 143, 144, 145, 146, 147, 148, 149, 1153, 1154, 1155, 1107, 1108, 1109, 1110, 1111, 1112, 1113, 1114, 1115, 1116, 1156, 1157, 1158, 1159, 1160, 1161, 1162, 1163, 1164, 1165, 1166, 1167, 1168, 1169, 1170, 1171, 1172, 1173, 1174, 1175, 1176, 1177, 1178, 1179, 1180, 1181, 1182, 1183, 1184, 1185, 1186, 1187, 1188, 1189, 1190, 1191, 1192, 1193, 1194, 1195, 1196, 1197, 1198, 1199, 1200, 1201, 1202, 1203, 1204, 1205, 1206, 1207, 1208] (by decide +kernel) (by decide +kernel)
set_option maxRecDepth 20000 in
theorem gL_law_X9_init : GoodIn wsL_law (wsX9_init) := ggL_law_X9_init
set_option maxRecDepth 20000 in
theorem ggL_law_X10_init : GoodIn wsL_law wsX10_init := goodIn_r _ [152, 153, 11, 12, 57, 154, 155, 156, 70, 157, 158, 159, 55, 160, 161, 162, 163, 164, 165, 166, 167, 168, 169, 170, 171, 172, 173, 174, 175, 176, 177, 178, 179, 180, 181, 182, 183, 184, 185, 5, 186, 187, 188, 1117, 1118, 1119, 1120, 1121, 1122, 1123, 1124, 1125, 1126, 1127, 1128, 1129, 1130, 1131, 1132, 1133, 1134, 1135, 1136, 1137, 1138, 1139, 1140, 1141, 1142, 1143, 1144, 1145, 1146, 1147, 1148, 1149, 1150, 1151, 1152] (by decide +kernel) (by decide +kernel)
set_option maxRecDepth 20000 in
theorem gL_law_X10_init : GoodIn wsL_law (wsX10_init) := ggL_law_X10_init
set_option maxRecDepth 20000 in
theorem ggL_law_X9_lane : GoodIn wsL_law wsX9_lane := goodIn_r _ [192, 20, 193, 194, 2, 195, 196, 197, 198, 199, 200, 201, 202, 19, 203, 75, 67, 68, 69, 71, 204, 205, 206, 207, 208, 209, 210, 211, 74, 212, 213, 214, 215, 24, 28, 216, 217, 218, 27, 219, 97, 1107, 1108, 1109, 1110, 1111, 1112, 1113, 1114, 1115, 1116, 1156, 1157, 1158, 1159, 1160, 1161, 1162, 1163, 1164, 1165, 1166, 1167, 1168, 1169, 1170, 1171, 1172, 1173, 1174, 1175, 1176] (by decide +kernel) (by decide +kernel)
set_option maxRecDepth 20000 in
theorem gL_law_X9_lane : GoodIn wsL_law (wsV RL 13 RX9 yX9_lane wsX9_lane) := goodIn_app (goodIn_of _ (by decide +kernel)) ggL_law_X9_lane
set_option maxRecDepth 20000 in
theorem ggL_law_X10_lane : GoodIn wsL_law wsX10_lane := goodIn_r _ [223, 188, 154, 155, 156, 157, 224, 225, 226, 5, 227, 183, 184, 185, 186, 161, 187, 1117, 1118, 1119, 1120, 1121, 1122, 1123, 1124, 1125, 1126, 1127, 1128, 1129, 1130, 1131, 1132, 1133, 1134, 1135, 1136, 1137, 1138, 1139, 1140, 1141, 1142, 1143, 1144, 1145, 1146, 1147, 1148, 1149, 1150, 1151, 1152] (by decide +kernel) (by decide +kernel)
set_option maxRecDepth 20000 in
theorem gL_law_X10_lane : GoodIn wsL_law (wsV RL 17 RX10 yX10_lane wsX10_lane) := goodIn_app (goodIn_of _ (by decide +kernel)) ggL_law_X10_lane
set_option maxRecDepth 20000 in
theorem ggL_law_X9_open : GoodIn wsL_law wsX9_open := goodIn_r _ [231, 20, 232, 233, 234, 19, 235, 75, 204, 205, 206, 2, 207, 208, 209, 210, 211, 74, 212, 213, 214, 215, 24, 28, 216, 217, 218, 27, 219, 97, 1107, 1108, 1109, 1110, 1111, 1112, 1113, 1114, 1115, 1116, 1156, 1157, 1158, 1159, 1160, 1161, 1162, 1163, 1164, 1165, 1166, 1167, 1168, 1169, 1170, 1171, 1172, 1173, 1174, 1175, 1176] (by decide +kernel) (by decide +kernel)
set_option maxRecDepth 20000 in
theorem gL_law_X9_open : GoodIn wsL_law (wsV RL 18 RX9 yX9_open wsX9_open) := goodIn_app (goodIn_of _ (by decide +kernel)) ggL_law_X9_open
set_option maxRecDepth 20000 in
theorem ggL_law_X10_open : GoodIn wsL_law wsX10_open := goodIn_r _ [239, 157, 224, 240, 241, 242, 5, 243, 188, 183, 184, 185, 186, 161, 187, 154, 155, 156, 1117, 1118, 1119, 1120, 1121, 1122, 1123, 1124, 1125, 1126, 1127, 1128, 1129, 1130, 1131, 1132, 1133, 1134, 1135, 1136, 1137, 1138, 1139, 1140, 1141, 1142, 1143, 1144, 1145, 1146, 1147, 1148, 1149, 1150, 1151, 1152] (by decide +kernel) (by decide +kernel)
set_option maxRecDepth 20000 in
theorem gL_law_X10_open : GoodIn wsL_law (wsV RL 22 RX10 yX10_open wsX10_open) := goodIn_app (goodIn_of _ (by decide +kernel)) ggL_law_X10_open
set_option maxRecDepth 20000 in
theorem ggL_law_X9_about : GoodIn wsL_law wsX9_about := goodIn_r _ [247, 20, 232, 233, 234, 19, 235, 75, 1107, 1108, 1109, 1110, 1111, 1112, 1113, 1114, 1115, 1116, 1156, 1157, 1158, 1159, 1160, 1161, 1162] (by decide +kernel) (by decide +kernel)
set_option maxRecDepth 20000 in
theorem gL_law_X9_about : GoodIn wsL_law (wsV RL 23 RX9 yX9_about wsX9_about) := goodIn_app (goodIn_of _ (by decide +kernel)) ggL_law_X9_about
set_option maxRecDepth 20000 in
theorem ggL_law_X10_about : GoodIn wsL_law wsX10_about := goodIn_r _ [251, 154, 155, 156, 157, 240, 241, 242, 5, 243, 188, 1117, 1118, 1119, 1120, 1121, 1122, 1123, 1124, 1125, 1126, 1127, 1128, 1129, 1130, 1131, 1132, 1133, 1134, 1135, 1136, 1137, 1138, 1139, 1140, 1141, 1142, 1143, 1144, 1145, 1146, 1147, 1148, 1149, 1150, 1151, 1152] (by decide +kernel) (by decide +kernel)
set_option maxRecDepth 20000 in
theorem gL_law_X10_about : GoodIn wsL_law (wsV RL 27 RX10 yX10_about wsX10_about) := goodIn_app (goodIn_of _ (by decide +kernel)) ggL_law_X10_about
set_option maxRecDepth 20000 in
theorem ggL_law_X9_row : GoodIn wsL_law wsX9_row := goodIn_r _ [255, 16, 256, 257, 258, 15, 259, 260, 261, 262, 263, 58, 59, 56, 264, 265, 62, 266, 1107, 1108, 1109, 1110, 1111, 1112, 1113, 1114, 1115, 1116, 1153, 1154, 1155] (by decide +kernel) (by decide +kernel)
set_option maxRecDepth 20000 in
theorem gL_law_X9_row : GoodIn wsL_law (wsV RL 28 RX9 yX9_row wsX9_row) := goodIn_app (goodIn_of _ (by decide +kernel)) ggL_law_X9_row
set_option maxRecDepth 20000 in
theorem ggL_law_X10_row : GoodIn wsL_law wsX10_row := goodIn_r _ [270, 158, 159, 160, 271, 272, 5, 273, 1117, 1118, 1119, 1120, 1121, 1122, 1123, 1124, 1125, 1126, 1127, 1128, 1129, 1130, 1131, 1132, 1133, 1134, 1135, 1136, 1137, 1138, 1139, 1140, 1141, 1142, 1143, 1144, 1145, 1146, 1147, 1148, 1149, 1150, 1151, 1152] (by decide +kernel) (by decide +kernel)
set_option maxRecDepth 20000 in
theorem gL_law_X10_row : GoodIn wsL_law (wsV RL 31 RX10 yX10_row wsX10_row) := goodIn_app (goodIn_of _ (by decide +kernel)) ggL_law_X10_row
set_option maxRecDepth 20000 in
theorem ggL_law_X9_cell : GoodIn wsL_law wsX9_cell := goodIn_r _ [277, 16, 256, 257, 258, 15, 259, 278, 279, 280, 281, 59, 282, 283, 284, 285, 286, 287, 288, 289, 58, 56, 1107, 1108, 1109, 1110, 1111, 1112, 1113, 1114, 1115, 1116, 1153, 1154, 1155] (by decide +kernel) (by decide +kernel)
set_option maxRecDepth 20000 in
theorem gL_law_X9_cell : GoodIn wsL_law (wsV RL 34 RX9 yX9_cell wsX9_cell) := goodIn_app (goodIn_of _ (by decide +kernel)) ggL_law_X9_cell
set_option maxRecDepth 20000 in
theorem ggL_law_X10_cell : GoodIn wsL_law wsX10_cell := goodIn_r _ [293, 159, 160, 158, 271, 272, 5, 273, 1117, 1118, 1119, 1120, 1121, 1122, 1123, 1124, 1125, 1126, 1127, 1128, 1129, 1130, 1131, 1132, 1133, 1134, 1135, 1136, 1137, 1138, 1139, 1140, 1141, 1142, 1143, 1144, 1145, 1146, 1147, 1148, 1149, 1150, 1151, 1152] (by decide +kernel) (by decide +kernel)
set_option maxRecDepth 20000 in
theorem gL_law_X10_cell : GoodIn wsL_law (wsV RL 38 RX10 yX10_cell wsX10_cell) := goodIn_app (goodIn_of _ (by decide +kernel)) ggL_law_X10_cell
set_option maxRecDepth 20000 in
theorem ggL_law_X9_told : GoodIn wsL_law wsX9_told := goodIn_r _ [297, 16, 298, 256, 257, 258, 15, 259, 282, 283, 284, 285, 59, 1107, 1108, 1109, 1110, 1111, 1112, 1113, 1114, 1115, 1116, 1153, 1154, 1155] (by decide +kernel) (by decide +kernel)
set_option maxRecDepth 20000 in
theorem gL_law_X9_told : GoodIn wsL_law (wsV RL 39 RX9 yX9_told wsX9_told) := goodIn_app (goodIn_of _ (by decide +kernel)) ggL_law_X9_told
set_option maxRecDepth 20000 in
theorem ggL_law_X10_told : GoodIn wsL_law wsX10_told := goodIn_r _ [302, 159, 303, 160, 271, 272, 5, 273, 1117, 1118, 1119, 1120, 1121, 1122, 1123, 1124, 1125, 1126, 1127, 1128, 1129, 1130, 1131, 1132, 1133, 1134, 1135, 1136, 1137, 1138, 1139, 1140, 1141, 1142, 1143, 1144, 1145, 1146, 1147, 1148, 1149, 1150, 1151, 1152] (by decide +kernel) (by decide +kernel)
set_option maxRecDepth 20000 in
theorem gL_law_X10_told : GoodIn wsL_law (wsV RL 43 RX10 yX10_told wsX10_told) := goodIn_app (goodIn_of _ (by decide +kernel)) ggL_law_X10_told
set_option maxRecDepth 20000 in
theorem ggL_law_X9_lose : GoodIn wsL_law wsX9_lose := goodIn_r _ [307, 16, 256, 257, 258, 15, 259, 278, 279, 280, 281, 59, 308, 309, 310, 311, 1107, 1108, 1109, 1110, 1111, 1112, 1113, 1114, 1115, 1116, 1153, 1154, 1155] (by decide +kernel) (by decide +kernel)
set_option maxRecDepth 20000 in
theorem gL_law_X9_lose : GoodIn wsL_law (wsV RL 44 RX9 yX9_lose wsX9_lose) := goodIn_app (goodIn_of _ (by decide +kernel)) ggL_law_X9_lose
set_option maxRecDepth 20000 in
theorem ggL_law_X10_lose : GoodIn wsL_law wsX10_lose := goodIn_r _ [315, 159, 271, 272, 5, 273, 1117, 1118, 1119, 1120, 1121, 1122, 1123, 1124, 1125, 1126, 1127, 1128, 1129, 1130, 1131, 1132, 1133, 1134, 1135, 1136, 1137, 1138, 1139, 1140, 1141, 1142, 1143, 1144, 1145, 1146, 1147, 1148, 1149, 1150, 1151, 1152] (by decide +kernel) (by decide +kernel)
set_option maxRecDepth 20000 in
theorem gL_law_X10_lose : GoodIn wsL_law (wsV RL 48 RX10 yX10_lose wsX10_lose) := goodIn_app (goodIn_of _ (by decide +kernel)) ggL_law_X10_lose
set_option maxRecDepth 20000 in
theorem ggL_law_X9_lay : GoodIn wsL_law wsX9_lay := goodIn_r _ [319, 16, 20, 256, 257, 258, 15, 259, 278, 279, 280, 281, 59, 320, 321, 322, 19, 323, 69, 71, 197, 2, 198, 199, 204, 205, 206, 207, 208, 209, 210, 211, 74, 212, 213, 214, 215, 24, 28, 216, 217, 218, 27, 219, 97, 1107, 1108, 1109, 1110, 1111, 1112, 1113, 1114, 1115, 1116, 1153, 1154, 1155, 1156, 1157, 1158, 1159, 1160, 1161, 1162, 1163, 1164, 1165, 1166, 1167, 1168, 1169, 1170, 1171, 1172, 1173, 1174, 1175, 1176] (by decide +kernel) (by decide +kernel)
set_option maxRecDepth 20000 in
theorem gL_law_X9_lay : GoodIn wsL_law (wsV RL 49 RX9 yX9_lay wsX9_lay) := goodIn_app (goodIn_of _ (by decide +kernel)) ggL_law_X9_lay
set_option maxRecDepth 20000 in
theorem ggL_law_X10_lay : GoodIn wsL_law wsX10_lay := goodIn_r _ [327, 159, 158, 188, 160, 328, 156, 157, 224, 271, 272, 5, 273, 183, 184, 185, 186, 161, 187, 154, 155, 1117, 1118, 1119, 1120, 1121, 1122, 1123, 1124, 1125, 1126, 1127, 1128, 1129, 1130, 1131, 1132, 1133, 1134, 1135, 1136, 1137, 1138, 1139, 1140, 1141, 1142, 1143, 1144, 1145, 1146, 1147, 1148, 1149, 1150, 1151, 1152] (by decide +kernel) (by decide +kernel)
set_option maxRecDepth 20000 in
theorem gL_law_X10_lay : GoodIn wsL_law (wsV RL 53 RX10 yX10_lay wsX10_lay) := goodIn_app (goodIn_of _ (by decide +kernel)) ggL_law_X10_lay
set_option maxRecDepth 20000 in
theorem ggL_law_X9_way : GoodIn wsL_law wsX9_way := goodIn_r _ [332, 20, 333, 193, 194, 2, 195, 334, 335, 336, 19, 337, 74, 73, 338, 339, 340, 341, 342, 75, 71, 343, 61, 62, 63, 344, 345, 346, 347, 67, 68, 69, 1107, 1108, 1109, 1110, 1111, 1112, 1113, 1114, 1115, 1116, 1156, 1157, 1158, 1159, 1160, 1161, 1162] (by decide +kernel) (by decide +kernel)
set_option maxRecDepth 20000 in
theorem gL_law_X9_way : GoodIn wsL_law (wsV RL 54 RX9 yX9_way wsX9_way) := goodIn_app (goodIn_of _ (by decide +kernel)) ggL_law_X9_way
set_option maxRecDepth 20000 in
theorem ggL_law_X10_way : GoodIn wsL_law wsX10_way := goodIn_r _ [351, 161, 187, 225, 226, 5, 227, 1117, 1118, 1119, 1120, 1121, 1122, 1123, 1124, 1125, 1126, 1127, 1128, 1129, 1130, 1131, 1132, 1133, 1134, 1135, 1136, 1137, 1138, 1139, 1140, 1141, 1142, 1143, 1144, 1145, 1146, 1147, 1148, 1149, 1150, 1151, 1152] (by decide +kernel) (by decide +kernel)
set_option maxRecDepth 20000 in
theorem gL_law_X10_way : GoodIn wsL_law (wsV RL 57 RX10 yX10_way wsX10_way) := goodIn_app (goodIn_of _ (by decide +kernel)) ggL_law_X10_way
set_option maxRecDepth 20000 in
theorem ggL_law_X9_walk : GoodIn wsL_law wsX9_walk := goodIn_r _ [355, 20, 193, 194, 2, 195, 356, 357, 358, 19, 359, 342, 360, 335, 336, 337, 74, 73, 338, 339, 340, 341, 75, 71, 343, 61, 62, 63, 344, 345, 346, 347, 67, 68, 69, 361, 362, 363, 364, 365, 366, 367, 368, 1107, 1108, 1109, 1110, 1111, 1112, 1113, 1114, 1115, 1116, 1156, 1157, 1158, 1159, 1160, 1161, 1162] (by decide +kernel) (by decide +kernel)
set_option maxRecDepth 20000 in
theorem gL_law_X9_walk : GoodIn wsL_law (wsV RL 58 RX9 yX9_walk wsX9_walk) := goodIn_app (goodIn_of _ (by decide +kernel)) ggL_law_X9_walk
set_option maxRecDepth 20000 in
theorem ggL_law_X10_walk : GoodIn wsL_law wsX10_walk := goodIn_r _ [372, 161, 187, 225, 226, 5, 227, 373, 374, 375, 376, 188, 154, 155, 157, 156, 1117, 1118, 1119, 1120, 1121, 1122, 1123, 1124, 1125, 1126, 1127, 1128, 1129, 1130, 1131, 1132, 1133, 1134, 1135, 1136, 1137, 1138, 1139, 1140, 1141, 1142, 1143, 1144, 1145, 1146, 1147, 1148, 1149, 1150, 1151, 1152] (by decide +kernel) (by decide +kernel)
set_option maxRecDepth 20000 in
theorem gL_law_X10_walk : GoodIn wsL_law (wsV RL 61 RX10 yX10_walk wsX10_walk) := goodIn_app (goodIn_of _ (by decide +kernel)) ggL_law_X10_walk
set_option maxRecDepth 20000 in
theorem ggL_law_X9_lamp : GoodIn wsL_law wsX9_lamp := goodIn_r _ [380, 24, 193, 194, 2, 195, 381, 382, 383, 23, 384, 89, 80, 385, 386, 387, 388, 389, 390, 391, 392, 81, 82, 88, 212, 213, 214, 215, 28, 216, 217, 218, 27, 219, 97, 1107, 1108, 1109, 1110, 1111, 1112, 1113, 1114, 1115, 1116, 1163, 1164, 1165, 1166, 1167, 1168, 1169, 1170, 1171, 1172, 1173, 1174, 1175, 1176] (by decide +kernel) (by decide +kernel)
set_option maxRecDepth 20000 in
theorem gL_law_X9_lamp : GoodIn wsL_law (wsV RL 62 RX9 yX9_lamp wsX9_lamp) := goodIn_app (goodIn_of _ (by decide +kernel)) ggL_law_X9_lamp
set_option maxRecDepth 20000 in
theorem ggL_law_X10_lamp : GoodIn wsL_law wsX10_lamp := goodIn_r _ [396, 397, 162, 163, 164, 165, 166, 224, 225, 226, 5, 227, 398, 399, 400, 401, 1117, 1118, 1119, 1120, 1121, 1122, 1123, 1124, 1125, 1126, 1127, 1128, 1129, 1130, 1131, 1132, 1133, 1134, 1135, 1136, 1137, 1138, 1139, 1140, 1141, 1142, 1143, 1144, 1145, 1146, 1147, 1148, 1149, 1150, 1151, 1152] (by decide +kernel) (by decide +kernel)
set_option maxRecDepth 20000 in
theorem gL_law_X10_lamp : GoodIn wsL_law (wsV RL 65 RX10 yX10_lamp wsX10_lamp) := goodIn_app (goodIn_of _ (by decide +kernel)) ggL_law_X10_lamp
set_option maxRecDepth 20000 in
theorem ggL_law_X9_dark : GoodIn wsL_law wsX9_dark := goodIn_r _ [405, 24, 385, 386, 387, 23, 388, 89, 406, 407, 408, 409, 88, 410, 411, 2, 412, 413, 414, 415, 416, 212, 213, 214, 215, 28, 216, 217, 218, 27, 219, 97, 1107, 1108, 1109, 1110, 1111, 1112, 1113, 1114, 1115, 1116, 1163, 1164, 1165, 1166, 1167, 1168, 1169, 1170, 1171, 1172, 1173, 1174, 1175, 1176] (by decide +kernel) (by decide +kernel)
set_option maxRecDepth 20000 in
theorem gL_law_X9_dark : GoodIn wsL_law (wsV RL 66 RX9 yX9_dark wsX9_dark) := goodIn_app (goodIn_of _ (by decide +kernel)) ggL_law_X9_dark
set_option maxRecDepth 20000 in
theorem ggL_law_X10_dark : GoodIn wsL_law wsX10_dark := goodIn_r _ [420, 163, 165, 224, 398, 399, 400, 5, 401, 397, 1117, 1118, 1119, 1120, 1121, 1122, 1123, 1124, 1125, 1126, 1127, 1128, 1129, 1130, 1131, 1132, 1133, 1134, 1135, 1136, 1137, 1138, 1139, 1140, 1141, 1142, 1143, 1144, 1145, 1146, 1147, 1148, 1149, 1150, 1151, 1152] (by decide +kernel) (by decide +kernel)
set_option maxRecDepth 20000 in
theorem gL_law_X10_dark : GoodIn wsL_law (wsV RL 69 RX10 yX10_dark wsX10_dark) := goodIn_app (goodIn_of _ (by decide +kernel)) ggL_law_X10_dark
set_option maxRecDepth 20000 in
theorem ggL_law_X9_twin : GoodIn wsL_law wsX9_twin := goodIn_r _ [424, 24, 385, 386, 387, 23, 388, 89, 425, 426, 427, 428, 90, 91, 80, 87, 85, 84, 429, 335, 336, 19, 337, 74, 73, 338, 339, 340, 341, 342, 75, 71, 343, 61, 62, 63, 344, 345, 346, 347, 67, 68, 69, 430, 431, 432, 433, 434, 81, 82, 435, 436, 437, 438, 439, 440, 441, 442, 443, 444, 407, 408, 409, 88, 410, 411, 2, 412, 1107, 1108, 1109, 1110, 1111, 1112, 1113, 1114, 1115, 1116, 1163, 1164, 1165, 1166, 1167, 1168, 1169, 1170, 1171, 1172, 1173, 1156, 1157, 1158, 1159, 1160, 1161, 1162] (by decide +kernel) (by decide +kernel)
set_option maxRecDepth 20000 in
theorem gL_law_X9_twin : GoodIn wsL_law (wsV RL 70 RX9 yX9_twin wsX9_twin) := goodIn_app (goodIn_of _ (by decide +kernel)) ggL_law_X9_twin
set_option maxRecDepth 20000 in
theorem ggL_law_X10_twin : GoodIn wsL_law wsX10_twin := goodIn_r _ [448, 163, 398, 399, 400, 5, 401, 397, 449, 450, 451, 452, 164, 187, 453, 454, 455, 456, 161, 162, 1117, 1118, 1119, 1120, 1121, 1122, 1123, 1124, 1125, 1126, 1127, 1128, 1129, 1130, 1131, 1132, 1133, 1134, 1135, 1136, 1137, 1138, 1139, 1140, 1141, 1142, 1143, 1144, 1145, 1146, 1147, 1148, 1149, 1150, 1151, 1152] (by decide +kernel) (by decide +kernel)
set_option maxRecDepth 20000 in
theorem gL_law_X10_twin : GoodIn wsL_law (wsV RL 73 RX10 yX10_twin wsX10_twin) := goodIn_app (goodIn_of _ (by decide +kernel)) ggL_law_X10_twin
set_option maxRecDepth 20000 in
theorem ggL_law_X9_of : GoodIn wsL_law wsX9_of := goodIn_r _ [460, 24, 461, 385, 386, 387, 23, 388, 89, 462, 463, 464, 465, 81, 406, 407, 408, 409, 88, 410, 411, 2, 412, 1107, 1108, 1109, 1110, 1111, 1112, 1113, 1114, 1115, 1116, 1163, 1164, 1165, 1166, 1167, 1168, 1169, 1170, 1171, 1172, 1173] (by decide +kernel) (by decide +kernel)
set_option maxRecDepth 20000 in
theorem gL_law_X9_of : GoodIn wsL_law (wsV RL 74 RX9 yX9_of wsX9_of) := goodIn_app (goodIn_of _ (by decide +kernel)) ggL_law_X9_of
set_option maxRecDepth 20000 in
theorem ggL_law_X10_of : GoodIn wsL_law wsX10_of := goodIn_r _ [469, 470, 162, 163, 165, 166, 398, 399, 400, 5, 401, 397, 1117, 1118, 1119, 1120, 1121, 1122, 1123, 1124, 1125, 1126, 1127, 1128, 1129, 1130, 1131, 1132, 1133, 1134, 1135, 1136, 1137, 1138, 1139, 1140, 1141, 1142, 1143, 1144, 1145, 1146, 1147, 1148, 1149, 1150, 1151, 1152] (by decide +kernel) (by decide +kernel)
set_option maxRecDepth 20000 in
theorem gL_law_X10_of : GoodIn wsL_law (wsV RL 77 RX10 yX10_of wsX10_of) := goodIn_app (goodIn_of _ (by decide +kernel)) ggL_law_X10_of
set_option maxRecDepth 20000 in
theorem ggL_law_X9_many : GoodIn wsL_law wsX9_many := goodIn_r _ [474, 20, 24, 48, 28, 475, 476, 477, 23, 478, 88, 479, 480, 481, 482, 483, 484, 485, 486, 487, 488, 489, 89, 411, 2, 412, 490, 463, 464, 465, 81, 1107, 1108, 1109, 1110, 1111, 1112, 1113, 1114, 1115, 1116, 1156, 1157, 1158, 1159, 1160, 1161, 1162, 1163, 1164, 1165, 1166, 1167, 1168, 1169, 1170, 1171, 1172, 1173, 1205, 1206, 1207, 1208, 1174, 1175, 1176] (by decide +kernel) (by decide +kernel)
set_option maxRecDepth 20000 in
theorem gL_law_X9_many : GoodIn wsL_law (wsV RL 78 RX9 yX9_many wsX9_many) := goodIn_app (goodIn_of _ (by decide +kernel)) ggL_law_X9_many
set_option maxRecDepth 20000 in
theorem ggL_law_X10_many : GoodIn wsL_law wsX10_many := goodIn_r _ [494, 188, 397, 495, 224, 165, 163, 496, 497, 498, 5, 499, 1117, 1118, 1119, 1120, 1121, 1122, 1123, 1124, 1125, 1126, 1127, 1128, 1129, 1130, 1131, 1132, 1133, 1134, 1135, 1136, 1137, 1138, 1139, 1140, 1141, 1142, 1143, 1144, 1145, 1146, 1147, 1148, 1149, 1150, 1151, 1152] (by decide +kernel) (by decide +kernel)
set_option maxRecDepth 20000 in
theorem gL_law_X10_many : GoodIn wsL_law (wsV RL 81 RX10 yX10_many wsX10_many) := goodIn_app (goodIn_of _ (by decide +kernel)) ggL_law_X10_many
set_option maxRecDepth 20000 in
theorem ggL_law_X9_least : GoodIn wsL_law wsX9_least := goodIn_r _ [503, 32, 28, 504, 505, 506, 2, 507, 24, 475, 476, 477, 23, 478, 88, 479, 480, 481, 482, 483, 484, 485, 508, 509, 510, 31, 511, 113, 103, 512, 513, 514, 515, 104, 109, 111, 112, 110, 105, 516, 426, 427, 428, 90, 89, 91, 80, 87, 85, 84, 429, 335, 336, 19, 337, 74, 73, 338, 339, 340, 341, 342, 75, 71, 343, 61, 62, 63, 344, 345, 346, 347, 67, 68, 69, 430, 431, 432, 433, 434, 81, 82, 435, 436, 437, 438, 439, 440, 441, 442, 443, 444, 407, 408, 409, 410, 386, 387, 388, 411, 412, 517, 518, 519, 520, 521, 522, 106, 523, 524, 525, 526, 527, 528, 529, 530, 531, 532, 533, 534, 535, 107, 536, 537, 538, 539, 540, 541, 542, 543, 108, 544, 545, 546, 547, 548, 549, 550, 27, 551, 96, 552, 97, 1107, 1108, 1109, 1110, 1111, 1112, 1113, 1114, 1115, 1116, 1177, 1178, 1179, 1180, 1181, 1182, 1183, 1184, 1185, 1186, 1163, 1164, 1165, 1166, 1167, 1168, 1169, 1170, 1171, 1172, 1173, 1156, 1157, 1158, 1159, 1160, 1161, 1162, 1174, 1175, 1176] (by decide +kernel) (by decide +kernel)
set_option maxRecDepth 20000 in
theorem gL_law_X9_least : GoodIn wsL_law (wsV RL 82 RX9 yX9_least wsX9_least) := goodIn_app (goodIn_of _ (by decide +kernel)) ggL_law_X9_least
set_option maxRecDepth 20000 in
theorem ggL_law_X10_least : GoodIn wsL_law wsX10_least := goodIn_r _ [556, 187, 224, 167, 172, 496, 497, 498, 5, 499, 397, 165, 557, 558, 559, 560, 171, 561, 562, 563, 564, 453, 454, 455, 456, 161, 162, 565, 566, 567, 568, 449, 450, 451, 452, 163, 164, 569, 570, 571, 572, 573, 574, 575, 576, 577, 578, 173, 579, 580, 581, 582, 583, 584, 585, 586, 1117, 1118, 1119, 1120, 1121, 1122, 1123, 1124, 1125, 1126, 1127, 1128, 1129, 1130, 1131, 1132, 1133, 1134, 1135, 1136, 1137, 1138, 1139, 1140, 1141, 1142, 1143, 1144, 1145, 1146, 1147, 1148, 1149, 1150, 1151, 1152] (by decide +kernel) (by decide +kernel)
set_option maxRecDepth 20000 in
theorem gL_law_X10_least : GoodIn wsL_law (wsV RL 86 RX10 yX10_least wsX10_least) := goodIn_app (goodIn_of _ (by decide +kernel)) ggL_law_X10_least
set_option maxRecDepth 20000 in
theorem ggL_law_X9_second : GoodIn wsL_law wsX9_second := goodIn_r _ [590, 28, 32, 591, 592, 593, 27, 594, 97, 98, 595, 476, 477, 23, 478, 88, 479, 480, 481, 482, 483, 484, 485, 504, 505, 506, 2, 507, 24, 475, 508, 509, 510, 31, 511, 113, 103, 512, 513, 514, 515, 104, 109, 111, 112, 110, 105, 516, 426, 427, 428, 90, 89, 91, 80, 87, 85, 84, 429, 335, 336, 19, 337, 74, 73, 338, 339, 340, 341, 342, 75, 71, 343, 61, 62, 63, 344, 345, 346, 347, 67, 68, 69, 430, 431, 432, 433, 434, 81, 82, 435, 436, 437, 438, 439, 440, 441, 442, 443, 444, 407, 408, 409, 410, 386, 387, 388, 411, 412, 517, 518, 596, 597, 598, 599, 96, 600, 601, 602, 603, 604, 605, 606, 607, 519, 520, 521, 522, 106, 523, 524, 525, 526, 527, 528, 529, 530, 531, 532, 533, 534, 535, 107, 536, 537, 538, 539, 540, 541, 542, 543, 108, 544, 545, 546, 547, 1107, 1108, 1109, 1110, 1111, 1112, 1113, 1114, 1115, 1116, 1177, 1178, 1179, 1180, 1181, 1182, 1183, 1184, 1185, 1186, 1174, 1175, 1176, 1163, 1164, 1165, 1166, 1167, 1168, 1169, 1170, 1171, 1172, 1173, 1156, 1157, 1158, 1159, 1160, 1161, 1162] (by decide +kernel) (by decide +kernel)
set_option maxRecDepth 20000 in
theorem gL_law_X9_second : GoodIn wsL_law (wsV RL 87 RX9 yX9_second wsX9_second) := goodIn_app (goodIn_of _ (by decide +kernel)) ggL_law_X9_second
set_option maxRecDepth 20000 in
theorem ggL_law_X10_second : GoodIn wsL_law wsX10_second := goodIn_r _ [611, 187, 612, 613, 614, 5, 615, 224, 496, 497, 498, 499, 397, 165, 616, 617, 618, 619, 167, 173, 557, 558, 559, 560, 171, 172, 561, 562, 563, 564, 453, 454, 455, 456, 161, 162, 565, 566, 567, 568, 449, 450, 451, 452, 163, 164, 569, 570, 571, 572, 573, 574, 575, 576, 577, 578, 579, 580, 581, 582, 583, 584, 585, 586, 1117, 1118, 1119, 1120, 1121, 1122, 1123, 1124, 1125, 1126, 1127, 1128, 1129, 1130, 1131, 1132, 1133, 1134, 1135, 1136, 1137, 1138, 1139, 1140, 1141, 1142, 1143, 1144, 1145, 1146, 1147, 1148, 1149, 1150, 1151, 1152] (by decide +kernel) (by decide +kernel)
set_option maxRecDepth 20000 in
theorem gL_law_X10_second : GoodIn wsL_law (wsV RL 90 RX10 yX10_second wsX10_second) := goodIn_app (goodIn_of _ (by decide +kernel)) ggL_law_X10_second
set_option maxRecDepth 20000 in
theorem ggL_law_X9_with : GoodIn wsL_law wsX9_with := goodIn_r _ [623, 24, 32, 406, 407, 408, 23, 409, 88, 410, 386, 387, 388, 89, 411, 2, 412, 504, 505, 506, 507, 475, 476, 477, 478, 479, 480, 481, 482, 483, 484, 485, 508, 509, 510, 31, 511, 113, 103, 512, 513, 514, 515, 104, 109, 111, 112, 110, 105, 516, 426, 427, 428, 90, 91, 80, 87, 85, 84, 429, 335, 336, 19, 337, 74, 73, 338, 339, 340, 341, 342, 75, 71, 343, 61, 62, 63, 344, 345, 346, 347, 67, 68, 69, 430, 431, 432, 433, 434, 81, 82, 435, 436, 437, 438, 439, 440, 441, 442, 443, 444, 517, 518, 624, 625, 626, 627, 519, 520, 521, 522, 106, 523, 524, 525, 526, 527, 528, 529, 530, 531, 532, 533, 534, 535, 107, 536, 537, 538, 539, 540, 541, 542, 543, 108, 544, 545, 546, 547, 1107, 1108, 1109, 1110, 1111, 1112, 1113, 1114, 1115, 1116, 1177, 1178, 1179, 1180, 1181, 1182, 1183, 1184, 1185, 1186, 1163, 1164, 1165, 1166, 1167, 1168, 1169, 1170, 1171, 1172, 1173, 1156, 1157, 1158, 1159, 1160, 1161, 1162] (by decide +kernel) (by decide +kernel)
set_option maxRecDepth 20000 in
theorem gL_law_X9_with : GoodIn wsL_law (wsV RL 91 RX9 yX9_with wsX9_with) := goodIn_app (goodIn_of _ (by decide +kernel)) ggL_law_X9_with
set_option maxRecDepth 20000 in
theorem ggL_law_X10_with : GoodIn wsL_law wsX10_with := goodIn_r _ [631, 187, 632, 633, 634, 5, 635, 165, 398, 399, 400, 401, 397, 496, 497, 498, 499, 557, 558, 559, 560, 171, 172, 561, 562, 563, 564, 453, 454, 455, 456, 161, 162, 565, 566, 567, 568, 449, 450, 451, 452, 163, 164, 569, 570, 571, 572, 573, 574, 575, 576, 577, 578, 173, 579, 580, 581, 582, 583, 584, 585, 586, 1117, 1118, 1119, 1120, 1121, 1122, 1123, 1124, 1125, 1126, 1127, 1128, 1129, 1130, 1131, 1132, 1133, 1134, 1135, 1136, 1137, 1138, 1139, 1140, 1141, 1142, 1143, 1144, 1145, 1146, 1147, 1148, 1149, 1150, 1151, 1152] (by decide +kernel) (by decide +kernel)
set_option maxRecDepth 20000 in
theorem gL_law_X10_with : GoodIn wsL_law (wsV RL 95 RX10 yX10_with wsX10_with) := goodIn_app (goodIn_of _ (by decide +kernel)) ggL_law_X10_with
set_option maxRecDepth 20000 in
theorem ggL_law_X9_put : GoodIn wsL_law wsX9_put := goodIn_r _ [639, 24, 28, 385, 386, 387, 23, 388, 89, 406, 407, 408, 409, 88, 410, 411, 2, 412, 640, 641, 642, 27, 643, 97, 96, 644, 645, 646, 647, 1107, 1108, 1109, 1110, 1111, 1112, 1113, 1114, 1115, 1116, 1163, 1164, 1165, 1166, 1167, 1168, 1169, 1170, 1171, 1172, 1173, 1174, 1175, 1176] (by decide +kernel) (by decide +kernel)
set_option maxRecDepth 20000 in
theorem gL_law_X9_put : GoodIn wsL_law (wsV RL 96 RX9 yX9_put wsX9_put) := goodIn_app (goodIn_of _ (by decide +kernel)) ggL_law_X9_put
set_option maxRecDepth 20000 in
theorem ggL_law_X10_put : GoodIn wsL_law wsX10_put := goodIn_r _ [651, 165, 167, 224, 398, 399, 400, 5, 401, 397, 572, 573, 574, 1117, 1118, 1119, 1120, 1121, 1122, 1123, 1124, 1125, 1126, 1127, 1128, 1129, 1130, 1131, 1132, 1133, 1134, 1135, 1136, 1137, 1138, 1139, 1140, 1141, 1142, 1143, 1144, 1145, 1146, 1147, 1148, 1149, 1150, 1151, 1152] (by decide +kernel) (by decide +kernel)
set_option maxRecDepth 20000 in
theorem gL_law_X10_put : GoodIn wsL_law (wsV RL 99 RX10 yX10_put wsX10_put) := goodIn_app (goodIn_of _ (by decide +kernel)) ggL_law_X10_put
set_option maxRecDepth 20000 in
theorem ggL_law_X9_clear : GoodIn wsL_law wsX9_clear := goodIn_r _ [655, 28, 216, 217, 218, 27, 219, 97, 1107, 1108, 1109, 1110, 1111, 1112, 1113, 1114, 1115, 1116, 1174, 1175, 1176] (by decide +kernel) (by decide +kernel)
set_option maxRecDepth 20000 in
theorem gL_law_X9_clear : GoodIn wsL_law (wsV RL 100 RX9 yX9_clear wsX9_clear) := goodIn_app (goodIn_of _ (by decide +kernel)) ggL_law_X9_clear
set_option maxRecDepth 20000 in
theorem ggL_law_X10_clear : GoodIn wsL_law wsX10_clear := goodIn_r _ [659, 224, 1117, 1118, 1119, 1120, 1121, 1122, 1123, 1124, 1125, 1126, 1127, 1128, 1129, 1130, 1131, 1132, 1133, 1134, 1135, 1136, 1137, 1138, 1139, 1140, 1141, 1142, 1143, 1144, 1145, 1146, 1147, 1148, 1149, 1150, 1151, 1152] (by decide +kernel) (by decide +kernel)
set_option maxRecDepth 20000 in
theorem gL_law_X10_clear : GoodIn wsL_law (wsV RL 103 RX10 yX10_clear wsX10_clear) := goodIn_app (goodIn_of _ (by decide +kernel)) ggL_law_X10_clear
set_option maxRecDepth 20000 in
theorem ggL_law_X9_at : GoodIn wsL_law wsX9_at := goodIn_r _ [663, 28, 1107, 1108, 1109, 1110, 1111, 1112, 1113, 1114, 1115, 1116, 1174, 1175, 1176] (by decide +kernel) (by decide +kernel)
set_option maxRecDepth 20000 in
theorem gL_law_X9_at : GoodIn wsL_law (wsV RL 104 RX9 yX9_at wsX9_at) := goodIn_app (goodIn_of _ (by decide +kernel)) ggL_law_X9_at
set_option maxRecDepth 20000 in
theorem ggL_law_X10_at : GoodIn wsL_law wsX10_at := goodIn_r _ [667, 224, 167, 1117, 1118, 1119, 1120, 1121, 1122, 1123, 1124, 1125, 1126, 1127, 1128, 1129, 1130, 1131, 1132, 1133, 1134, 1135, 1136, 1137, 1138, 1139, 1140, 1141, 1142, 1143, 1144, 1145, 1146, 1147, 1148, 1149, 1150, 1151, 1152] (by decide +kernel) (by decide +kernel)
set_option maxRecDepth 20000 in
theorem gL_law_X10_at : GoodIn wsL_law (wsV RL 107 RX10 yX10_at wsX10_at) := goodIn_app (goodIn_of _ (by decide +kernel)) ggL_law_X10_at
set_option maxRecDepth 20000 in
theorem ggL_law_X9_length : GoodIn wsL_law wsX9_length := goodIn_r _ [671, 28, 333, 591, 592, 593, 27, 594, 97, 98, 595, 476, 477, 23, 478, 88, 479, 480, 481, 482, 483, 484, 485, 672, 673, 674, 675, 96, 676, 426, 427, 428, 90, 89, 91, 80, 87, 85, 84, 429, 335, 336, 19, 337, 74, 73, 338, 339, 340, 341, 342, 75, 71, 343, 61, 62, 63, 344, 345, 346, 347, 67, 68, 69, 430, 431, 432, 433, 434, 81, 82, 435, 436, 437, 438, 439, 440, 441, 442, 443, 444, 407, 408, 409, 410, 386, 387, 388, 411, 2, 412, 600, 601, 602, 603, 1107, 1108, 1109, 1110, 1111, 1112, 1113, 1114, 1115, 1116, 1174, 1175, 1176, 1163, 1164, 1165, 1166, 1167, 1168, 1169, 1170, 1171, 1172, 1173, 1156, 1157, 1158, 1159, 1160, 1161, 1162] (by decide +kernel) (by decide +kernel)
set_option maxRecDepth 20000 in
theorem gL_law_X9_length : GoodIn wsL_law (wsV RL 108 RX9 yX9_length wsX9_length) := goodIn_app (goodIn_of _ (by decide +kernel)) ggL_law_X9_length
set_option maxRecDepth 20000 in
theorem ggL_law_X10_length : GoodIn wsL_law wsX10_length := goodIn_r _ [680, 167, 224, 187, 612, 613, 614, 5, 615, 496, 497, 498, 499, 397, 165, 561, 562, 563, 564, 453, 454, 455, 456, 161, 162, 1117, 1118, 1119, 1120, 1121, 1122, 1123, 1124, 1125, 1126, 1127, 1128, 1129, 1130, 1131, 1132, 1133, 1134, 1135, 1136, 1137, 1138, 1139, 1140, 1141, 1142, 1143, 1144, 1145, 1146, 1147, 1148, 1149, 1150, 1151, 1152] (by decide +kernel) (by decide +kernel)
set_option maxRecDepth 20000 in
theorem gL_law_X10_length : GoodIn wsL_law (wsV RL 111 RX10 yX10_length wsX10_length) := goodIn_app (goodIn_of _ (by decide +kernel)) ggL_law_X10_length
set_option maxRecDepth 20000 in
theorem ggL_law_X9_keeps : GoodIn wsL_law wsX9_keeps := goodIn_r _ [684, 28, 591, 592, 593, 27, 594, 97, 98, 595, 476, 477, 23, 478, 88, 479, 480, 481, 482, 483, 484, 485, 685, 686, 687, 688, 96, 676, 426, 427, 428, 90, 89, 91, 80, 87, 85, 84, 429, 335, 336, 19, 337, 74, 73, 338, 339, 340, 341, 342, 75, 71, 343, 61, 62, 63, 344, 345, 346, 347, 67, 68, 69, 430, 431, 432, 433, 434, 81, 82, 435, 436, 437, 438, 439, 440, 441, 442, 443, 444, 407, 408, 409, 410, 386, 387, 388, 411, 2, 412, 604, 605, 606, 607, 600, 601, 602, 603, 1107, 1108, 1109, 1110, 1111, 1112, 1113, 1114, 1115, 1116, 1174, 1175, 1176, 1163, 1164, 1165, 1166, 1167, 1168, 1169, 1170, 1171, 1172, 1173, 1156, 1157, 1158, 1159, 1160, 1161, 1162] (by decide +kernel) (by decide +kernel)
set_option maxRecDepth 20000 in
theorem gL_law_X9_keeps : GoodIn wsL_law (wsV RL 112 RX9 yX9_keeps wsX9_keeps) := goodIn_app (goodIn_of _ (by decide +kernel)) ggL_law_X9_keeps
set_option maxRecDepth 20000 in
theorem ggL_law_X10_keeps : GoodIn wsL_law wsX10_keeps := goodIn_r _ [692, 167, 224, 612, 613, 614, 5, 615, 496, 497, 498, 499, 397, 165, 565, 566, 567, 568, 449, 450, 451, 452, 163, 164, 187, 453, 454, 455, 456, 161, 162, 569, 570, 571, 572, 573, 574, 1117, 1118, 1119, 1120, 1121, 1122, 1123, 1124, 1125, 1126, 1127, 1128, 1129, 1130, 1131, 1132, 1133, 1134, 1135, 1136, 1137, 1138, 1139, 1140, 1141, 1142, 1143, 1144, 1145, 1146, 1147, 1148, 1149, 1150, 1151, 1152] (by decide +kernel) (by decide +kernel)
set_option maxRecDepth 20000 in
theorem gL_law_X10_keeps : GoodIn wsL_law (wsV RL 115 RX10 yX10_keeps wsX10_keeps) := goodIn_app (goodIn_of _ (by decide +kernel)) ggL_law_X10_keeps
set_option maxRecDepth 20000 in
theorem ggL_law_X9_turn : GoodIn wsL_law wsX9_turn := goodIn_r _ [696, 28, 591, 592, 593, 27, 594, 97, 98, 595, 476, 477, 23, 478, 88, 479, 480, 481, 482, 483, 484, 485, 697, 698, 699, 700, 96, 1107, 1108, 1109, 1110, 1111, 1112, 1113, 1114, 1115, 1116, 1174, 1175, 1176, 1163, 1164, 1165, 1166, 1167, 1168, 1169, 1170, 1171, 1172, 1173] (by decide +kernel) (by decide +kernel)
set_option maxRecDepth 20000 in
theorem gL_law_X9_turn : GoodIn wsL_law (wsV RL 116 RX9 yX9_turn wsX9_turn) := goodIn_app (goodIn_of _ (by decide +kernel)) ggL_law_X9_turn
set_option maxRecDepth 20000 in
theorem ggL_law_X10_turn : GoodIn wsL_law wsX10_turn := goodIn_r _ [704, 224, 612, 613, 614, 5, 615, 496, 497, 498, 499, 397, 165, 705, 706, 707, 708, 167, 1117, 1118, 1119, 1120, 1121, 1122, 1123, 1124, 1125, 1126, 1127, 1128, 1129, 1130, 1131, 1132, 1133, 1134, 1135, 1136, 1137, 1138, 1139, 1140, 1141, 1142, 1143, 1144, 1145, 1146, 1147, 1148, 1149, 1150, 1151, 1152] (by decide +kernel) (by decide +kernel)
set_option maxRecDepth 20000 in
theorem gL_law_X10_turn : GoodIn wsL_law (wsV RL 119 RX10 yX10_turn wsX10_turn) := goodIn_app (goodIn_of _ (by decide +kernel)) ggL_law_X10_turn
set_option maxRecDepth 20000 in
theorem ggL_law_X9_better : GoodIn wsL_law wsX9_better := goodIn_r _ [712, 28, 333, 591, 592, 593, 27, 594, 97, 98, 595, 476, 477, 23, 478, 88, 479, 480, 481, 482, 483, 484, 485, 672, 673, 674, 675, 96, 676, 426, 427, 428, 90, 89, 91, 80, 87, 85, 84, 429, 335, 336, 19, 337, 74, 73, 338, 339, 340, 341, 342, 75, 71, 343, 61, 62, 63, 344, 345, 346, 347, 67, 68, 69, 430, 431, 432, 433, 434, 81, 82, 435, 436, 437, 438, 439, 440, 441, 442, 443, 444, 407, 408, 409, 410, 386, 387, 388, 411, 2, 412, 600, 601, 602, 603, 713, 714, 715, 716, 717, 686, 687, 688, 604, 605, 606, 607, 718, 719, 720, 721, 722, 698, 699, 700, 1107, 1108, 1109, 1110, 1111, 1112, 1113, 1114, 1115, 1116, 1174, 1175, 1176, 1163, 1164, 1165, 1166, 1167, 1168, 1169, 1170, 1171, 1172, 1173, 1156, 1157, 1158, 1159, 1160, 1161, 1162] (by decide +kernel) (by decide +kernel)
set_option maxRecDepth 20000 in
theorem gL_law_X9_better : GoodIn wsL_law (wsV RL 120 RX9 yX9_better wsX9_better) := goodIn_app (goodIn_of _ (by decide +kernel)) ggL_law_X9_better
set_option maxRecDepth 20000 in
theorem ggL_law_X10_better : GoodIn wsL_law wsX10_better := goodIn_r _ [726, 727, 678, 679, 5, 680, 167, 224, 187, 612, 613, 614, 615, 496, 497, 498, 499, 397, 165, 561, 562, 563, 564, 453, 454, 455, 456, 161, 162, 728, 729, 730, 731, 565, 566, 567, 568, 449, 450, 451, 452, 163, 164, 569, 570, 571, 572, 573, 574, 705, 706, 707, 708, 1117, 1118, 1119, 1120, 1121, 1122, 1123, 1124, 1125, 1126, 1127, 1128, 1129, 1130, 1131, 1132, 1133, 1134, 1135, 1136, 1137, 1138, 1139, 1140, 1141, 1142, 1143, 1144, 1145, 1146, 1147, 1148, 1149, 1150, 1151, 1152] (by decide +kernel) (by decide +kernel)
set_option maxRecDepth 20000 in
theorem gL_law_X10_better : GoodIn wsL_law (wsV RL 123 RX10 yX10_better wsX10_better) := goodIn_app (goodIn_of _ (by decide +kernel)) ggL_law_X10_better
set_option maxRecDepth 20000 in
theorem ggL_law_X9_price : GoodIn wsL_law wsX9_price := goodIn_r _ [735, 24, 736, 737, 385, 386, 387, 23, 388, 89, 1107, 1108, 1109, 1110, 1111, 1112, 1113, 1114, 1115, 1116, 1163, 1164, 1165, 1166, 1167, 1168, 1169, 1170, 1171, 1172, 1173] (by decide +kernel) (by decide +kernel)
set_option maxRecDepth 20000 in
theorem gL_law_X9_price : GoodIn wsL_law (wsV RL 124 RX9 yX9_price wsX9_price) := goodIn_app (goodIn_of _ (by decide +kernel)) ggL_law_X9_price
set_option maxRecDepth 20000 in
theorem ggL_law_X10_price : GoodIn wsL_law wsX10_price := goodIn_r _ [741, 742, 743, 166, 398, 399, 400, 5, 401, 397, 1117, 1118, 1119, 1120, 1121, 1122, 1123, 1124, 1125, 1126, 1127, 1128, 1129, 1130, 1131, 1132, 1133, 1134, 1135, 1136, 1137, 1138, 1139, 1140, 1141, 1142, 1143, 1144, 1145, 1146, 1147, 1148, 1149, 1150, 1151, 1152] (by decide +kernel) (by decide +kernel)
set_option maxRecDepth 20000 in
theorem gL_law_X10_price : GoodIn wsL_law (wsV RL 127 RX10 yX10_price wsX10_price) := goodIn_app (goodIn_of _ (by decide +kernel)) ggL_law_X10_price
set_option maxRecDepth 20000 in
theorem ggL_law_X9_climb : GoodIn wsL_law wsX9_climb := goodIn_r _ [747, 40, 748, 749, 750, 751, 2, 752, 24, 475, 476, 477, 23, 478, 88, 479, 480, 481, 482, 483, 484, 485, 753, 754, 755, 756, 757, 758, 759, 760, 36, 425, 426, 427, 428, 90, 89, 91, 80, 87, 85, 84, 429, 335, 336, 19, 337, 74, 73, 338, 339, 340, 341, 342, 75, 71, 343, 61, 62, 63, 344, 345, 346, 347, 67, 68, 69, 430, 431, 432, 433, 434, 81, 82, 435, 436, 437, 438, 439, 440, 441, 442, 443, 444, 407, 408, 409, 410, 386, 387, 388, 411, 412, 761, 762, 763, 35, 764, 117, 118, 121, 122, 765, 766, 767, 768, 39, 769, 130, 134, 127, 770, 771, 772, 773, 774, 775, 776, 777, 778, 779, 780, 781, 782, 783, 784, 785, 786, 787, 131, 132, 133, 129, 788, 789, 790, 791, 792, 793, 794, 795, 796, 797, 798, 799, 800, 801, 802, 803, 804, 805, 806, 807, 808, 809, 135, 810, 811, 812, 813, 814, 815, 816, 817, 818, 819, 820, 821, 822, 823, 824, 825, 128, 826, 827, 828, 829, 830, 831, 832, 833, 834, 835, 836, 837, 838, 839, 840, 841, 842, 843, 1107, 1108, 1109, 1110, 1111, 1112, 1113, 1114, 1115, 1116, 1163, 1164, 1165, 1166, 1167, 1168, 1169, 1170, 1171, 1172, 1173, 1156, 1157, 1158, 1159, 1160, 1161, 1162, 1187, 1188, 1189, 1190, 1191, 1192, 1193, 1194, 1195, 1196, 1197, 1198, 1199, 1200, 1201] (by decide +kernel) (by decide +kernel)
set_option maxRecDepth 20000 in
theorem gL_law_X9_climb : GoodIn wsL_law (wsV RL 128 RX9 yX9_climb wsX9_climb) := goodIn_app (goodIn_of _ (by decide +kernel)) ggL_law_X9_climb
set_option maxRecDepth 20000 in
theorem ggL_law_X10_climb : GoodIn wsL_law wsX10_climb := goodIn_r _ [847, 848, 397, 166, 165, 849, 176, 496, 497, 498, 5, 499, 850, 851, 852, 853, 174, 854, 855, 856, 857, 177, 175, 858, 859, 860, 861, 862, 863, 864, 865, 866, 867, 868, 869, 870, 632, 633, 634, 635, 398, 399, 400, 401, 871, 872, 873, 874, 187, 453, 454, 455, 456, 161, 162, 875, 876, 877, 878, 879, 880, 881, 882, 883, 884, 885, 886, 1117, 1118, 1119, 1120, 1121, 1122, 1123, 1124, 1125, 1126, 1127, 1128, 1129, 1130, 1131, 1132, 1133, 1134, 1135, 1136, 1137, 1138, 1139, 1140, 1141, 1142, 1143, 1144, 1145, 1146, 1147, 1148, 1149, 1150, 1151, 1152] (by decide +kernel) (by decide +kernel)
set_option maxRecDepth 20000 in
theorem gL_law_X10_climb : GoodIn wsL_law (wsV RL 131 RX10 yX10_climb wsX10_climb) := goodIn_app (goodIn_of _ (by decide +kernel)) ggL_law_X10_climb
set_option maxRecDepth 20000 in
theorem ggL_law_X9_bound : GoodIn wsL_law wsX9_bound := goodIn_r _ [890, 891, 40, 749, 750, 751, 2, 752, 24, 475, 476, 477, 23, 478, 88, 479, 480, 481, 482, 483, 484, 485, 753, 754, 755, 756, 757, 758, 759, 760, 36, 425, 426, 427, 428, 90, 89, 91, 80, 87, 85, 84, 429, 335, 336, 19, 337, 74, 73, 338, 339, 340, 341, 342, 75, 71, 343, 61, 62, 63, 344, 345, 346, 347, 67, 68, 69, 430, 431, 432, 433, 434, 81, 82, 435, 436, 437, 438, 439, 440, 441, 442, 443, 444, 407, 408, 409, 410, 386, 387, 388, 411, 412, 761, 762, 763, 35, 764, 117, 118, 121, 122, 765, 766, 767, 768, 39, 769, 130, 134, 127, 770, 771, 772, 773, 774, 775, 776, 777, 778, 779, 780, 781, 782, 783, 784, 785, 786, 787, 131, 132, 133, 129, 788, 789, 790, 791, 792, 793, 794, 795, 796, 797, 798, 799, 800, 801, 802, 803, 804, 805, 806, 807, 808, 809, 135, 810, 811, 812, 813, 814, 815, 816, 817, 818, 819, 820, 821, 822, 823, 824, 825, 128, 826, 827, 828, 829, 830, 831, 832, 833, 834, 835, 1107, 1108, 1109, 1110, 1111, 1112, 1113, 1114, 1115, 1116, 1163, 1164, 1165, 1166, 1167, 1168, 1169, 1170, 1171, 1172, 1173, 1156, 1157, 1158, 1159, 1160, 1161, 1162, 1187, 1188, 1189, 1190, 1191, 1192, 1193, 1194, 1195, 1196, 1197, 1198, 1199, 1200, 1201] (by decide +kernel) (by decide +kernel)
set_option maxRecDepth 20000 in
theorem gL_law_X9_bound : GoodIn wsL_law (wsV RL 132 RX9 yX9_bound wsX9_bound) := goodIn_app (goodIn_of _ (by decide +kernel)) ggL_law_X9_bound
set_option maxRecDepth 20000 in
theorem ggL_law_X10_bound : GoodIn wsL_law wsX10_bound := goodIn_r _ [895, 896, 496, 497, 498, 5, 499, 397, 165, 850, 851, 852, 853, 174, 854, 855, 856, 857, 849, 177, 175, 176, 858, 166, 848, 859, 860, 861, 862, 863, 864, 865, 866, 867, 868, 869, 870, 632, 633, 634, 635, 398, 399, 400, 401, 871, 872, 873, 874, 187, 453, 454, 455, 456, 161, 162, 875, 876, 877, 878, 879, 880, 881, 882, 883, 884, 885, 886, 1117, 1118, 1119, 1120, 1121, 1122, 1123, 1124, 1125, 1126, 1127, 1128, 1129, 1130, 1131, 1132, 1133, 1134, 1135, 1136, 1137, 1138, 1139, 1140, 1141, 1142, 1143, 1144, 1145, 1146, 1147, 1148, 1149, 1150, 1151, 1152] (by decide +kernel) (by decide +kernel)
set_option maxRecDepth 20000 in
theorem gL_law_X10_bound : GoodIn wsL_law (wsV RL 136 RX10 yX10_bound wsX10_bound) := goodIn_app (goodIn_of _ (by decide +kernel)) ggL_law_X10_bound
set_option maxRecDepth 20000 in
theorem ggL_law_X9_taken : GoodIn wsL_law wsX9_taken := goodIn_r _ [900, 40, 749, 750, 751, 2, 752, 24, 475, 476, 477, 23, 478, 88, 479, 480, 481, 482, 483, 484, 485, 753, 754, 755, 756, 757, 758, 759, 760, 36, 425, 426, 427, 428, 90, 89, 91, 80, 87, 85, 84, 429, 335, 336, 19, 337, 74, 73, 338, 339, 340, 341, 342, 75, 71, 343, 61, 62, 63, 344, 345, 346, 347, 67, 68, 69, 430, 431, 432, 433, 434, 81, 82, 435, 436, 437, 438, 439, 440, 441, 442, 443, 444, 407, 408, 409, 410, 386, 387, 388, 411, 412, 761, 762, 763, 35, 764, 117, 118, 121, 122, 765, 766, 767, 768, 39, 769, 130, 134, 127, 770, 771, 772, 773, 774, 775, 776, 777, 778, 779, 780, 781, 782, 783, 784, 785, 786, 787, 131, 132, 133, 129, 788, 789, 790, 791, 792, 793, 794, 795, 796, 797, 798, 799, 800, 801, 802, 803, 804, 805, 806, 807, 808, 809, 135, 810, 811, 812, 813, 814, 815, 816, 817, 818, 819, 820, 821, 822, 823, 824, 825, 128, 826, 827, 828, 829, 1107, 1108, 1109, 1110, 1111, 1112, 1113, 1114, 1115, 1116, 1193, 1194, 1195, 1196, 1197, 1198, 1199, 1200, 1201, 1163, 1164, 1165, 1166, 1167, 1168, 1169, 1170, 1171, 1172, 1173, 1156, 1157, 1158, 1159, 1160, 1161, 1162, 1187, 1188, 1189, 1190, 1191, 1192] (by decide +kernel) (by decide +kernel)
set_option maxRecDepth 20000 in
theorem gL_law_X9_taken : GoodIn wsL_law (wsV RL 137 RX9 yX9_taken wsX9_taken) := goodIn_app (goodIn_of _ (by decide +kernel)) ggL_law_X9_taken
set_option maxRecDepth 20000 in
theorem ggL_law_X10_taken : GoodIn wsL_law wsX10_taken := goodIn_r _ [904, 849, 176, 496, 497, 498, 5, 499, 397, 165, 850, 851, 852, 853, 174, 854, 855, 856, 857, 177, 175, 858, 166, 848, 859, 860, 861, 862, 863, 864, 865, 866, 867, 868, 869, 870, 632, 633, 634, 635, 398, 399, 400, 401, 871, 872, 873, 874, 187, 453, 454, 455, 456, 161, 162, 875, 876, 877, 878, 879, 880, 881, 882, 883, 884, 885, 886, 1117, 1118, 1119, 1120, 1121, 1122, 1123, 1124, 1125, 1126, 1127, 1128, 1129, 1130, 1131, 1132, 1133, 1134, 1135, 1136, 1137, 1138, 1139, 1140, 1141, 1142, 1143, 1144, 1145, 1146, 1147, 1148, 1149, 1150, 1151, 1152] (by decide +kernel) (by decide +kernel)
set_option maxRecDepth 20000 in
theorem gL_law_X10_taken : GoodIn wsL_law (wsV RL 140 RX10 yX10_taken wsX10_taken) := goodIn_app (goodIn_of _ (by decide +kernel)) ggL_law_X10_taken
set_option maxRecDepth 20000 in
theorem ggL_law_X9_prove : GoodIn wsL_law wsX9_prove := goodIn_r _ [908, 44, 49, 48, 749, 750, 751, 2, 752, 24, 475, 476, 477, 23, 478, 88, 479, 480, 481, 482, 483, 484, 485, 757, 758, 759, 760, 36, 40, 425, 426, 427, 428, 90, 89, 91, 80, 87, 85, 84, 429, 335, 336, 19, 337, 74, 73, 338, 339, 340, 341, 342, 75, 71, 343, 61, 62, 63, 344, 345, 346, 347, 67, 68, 69, 430, 431, 432, 433, 434, 81, 82, 435, 436, 437, 438, 439, 440, 441, 442, 443, 444, 407, 408, 409, 410, 386, 387, 388, 411, 412, 761, 762, 763, 35, 764, 117, 118, 121, 122, 765, 766, 767, 768, 39, 769, 130, 134, 127, 770, 771, 772, 773, 774, 775, 776, 777, 778, 779, 780, 781, 782, 783, 909, 910, 911, 43, 912, 141, 913, 914, 915, 916, 142, 917, 918, 919, 920, 140, 921, 922, 923, 924, 925, 926, 927, 47, 928, 149, 929, 930, 931, 932, 146, 147, 148, 933, 934, 935, 936, 937, 938, 939, 940, 941, 942, 943, 944, 945, 946, 947, 948, 949, 950, 951, 952, 953, 954, 955, 956, 785, 786, 787, 131, 132, 133, 129, 788, 789, 790, 791, 792, 793, 794, 795, 796, 797, 798, 799, 800, 801, 802, 803, 804, 805, 806, 807, 808, 809, 135, 810, 811, 812, 813, 814, 815, 816, 817, 818, 819, 820, 821, 822, 823, 824, 825, 128, 826, 827, 828, 829, 957, 831, 832, 833, 834, 835, 958, 959, 960, 961, 962, 963, 964, 965, 966, 967, 968, 969, 970, 971, 972, 973, 119, 120, 974, 975, 976, 977, 978, 979, 980, 981, 982, 983, 984, 985, 986, 513, 514, 515, 1107, 1108, 1109, 1110, 1111, 1112, 1113, 1114, 1115, 1116, 1205, 1206, 1207, 1208, 1163, 1164, 1165, 1166, 1167, 1168, 1169, 1170, 1171, 1172, 1173, 1156, 1157, 1158, 1159, 1160, 1161, 1162, 1187, 1188, 1189, 1190, 1191, 1192, 1193, 1194, 1195, 1196, 1197, 1198, 1199, 1200, 1201, 1202, 1203, 1204] (by decide +kernel) (by decide +kernel)
set_option maxRecDepth 20000 in
theorem gL_law_X9_prove : GoodIn wsL_law (wsV RL 141 RX9 yX9_prove wsX9_prove) := goodIn_app (goodIn_of _ (by decide +kernel)) ggL_law_X9_prove
set_option maxRecDepth 20000 in
theorem ggL_law_X10_prove : GoodIn wsL_law wsX10_prove := goodIn_r _ [990, 991, 992, 495, 168, 180, 169, 181, 170, 182, 496, 497, 498, 5, 499, 397, 165, 850, 851, 852, 853, 174, 993, 994, 995, 996, 178, 997, 998, 999, 1000, 1001, 1002, 1003, 1004, 1005, 1006, 1007, 1008, 632, 633, 634, 635, 398, 399, 400, 401, 449, 450, 451, 452, 163, 164, 187, 453, 454, 455, 456, 161, 162, 1009, 1010, 1011, 1012, 1013, 1014, 1015, 1016, 1017, 1018, 1019, 854, 855, 856, 857, 849, 177, 175, 176, 858, 166, 848, 859, 860, 861, 862, 863, 864, 865, 866, 867, 868, 869, 870, 871, 872, 873, 874, 875, 876, 877, 878, 879, 880, 881, 882, 883, 884, 885, 886, 1020, 1021, 1022, 1023, 1024, 1025, 1026, 1027, 1028, 1029, 1030, 1031, 1032, 1033, 1034, 1035, 179, 1036, 1037, 1038, 1039, 1040, 1041, 1042, 1043, 1044, 1045, 1046, 1047, 1117, 1118, 1119, 1120, 1121, 1122, 1123, 1124, 1125, 1126, 1127, 1128, 1129, 1130, 1131, 1132, 1133, 1134, 1135, 1136, 1137, 1138, 1139, 1140, 1141, 1142, 1143, 1144, 1145, 1146, 1147, 1148, 1149, 1150, 1151, 1152] (by decide +kernel) (by decide +kernel)
set_option maxRecDepth 20000 in
theorem gL_law_X10_prove : GoodIn wsL_law (wsV RL 144 RX10 yX10_prove wsX10_prove) := goodIn_app (goodIn_of _ (by decide +kernel)) ggL_law_X10_prove
set_option maxRecDepth 20000 in
theorem ggL_law_X9_line : GoodIn wsL_law wsX9_line := goodIn_r _ [1051, 48, 1052, 1053, 2, 1054, 1055, 926, 927, 47, 928, 149, 929, 930, 931, 932, 146, 147, 148, 1107, 1108, 1109, 1110, 1111, 1112, 1113, 1114, 1115, 1116, 1205, 1206, 1207, 1208] (by decide +kernel) (by decide +kernel)
set_option maxRecDepth 20000 in
theorem gL_law_X9_line : GoodIn wsL_law (wsV RL 145 RX9 yX9_line wsX9_line) := goodIn_app (goodIn_of _ (by decide +kernel)) ggL_law_X9_line
set_option maxRecDepth 20000 in
theorem ggL_law_X10_line : GoodIn wsL_law wsX10_line := goodIn_r _ [1059, 495, 1060, 1061, 1062, 5, 1063, 168, 169, 170, 1117, 1118, 1119, 1120, 1121, 1122, 1123, 1124, 1125, 1126, 1127, 1128, 1129, 1130, 1131, 1132, 1133, 1134, 1135, 1136, 1137, 1138, 1139, 1140, 1141, 1142, 1143, 1144, 1145, 1146, 1147, 1148, 1149, 1150, 1151, 1152] (by decide +kernel) (by decide +kernel)
set_option maxRecDepth 20000 in
theorem gL_law_X10_line : GoodIn wsL_law (wsV RL 148 RX10 yX10_line wsX10_line) := goodIn_app (goodIn_of _ (by decide +kernel)) ggL_law_X10_line
set_option maxRecDepth 20000 in
theorem ggL_law_X9_alter : GoodIn wsL_law wsX9_alter := goodIn_r _ [1067, 48, 1068, 1069, 1070, 47, 1071, 149, 1052, 1053, 2, 1054, 1072, 930, 931, 932, 146, 147, 148, 1107, 1108, 1109, 1110, 1111, 1112, 1113, 1114, 1115, 1116, 1205, 1206, 1207, 1208] (by decide +kernel) (by decide +kernel)
set_option maxRecDepth 20000 in
theorem gL_law_X9_alter : GoodIn wsL_law (wsV RL 149 RX9 yX9_alter wsX9_alter) := goodIn_app (goodIn_of _ (by decide +kernel)) ggL_law_X9_alter
set_option maxRecDepth 20000 in
theorem ggL_law_X10_alter : GoodIn wsL_law wsX10_alter := goodIn_r _ [1063, 495, 168, 169, 170, 1117, 1118, 1119, 1120, 1121, 1122, 1123, 1124, 1125, 1126, 1127, 1128, 1129, 1130, 1131, 1132, 1133, 1134, 1135, 1136, 1137, 1138, 1139, 1140, 1141, 1142, 1143, 1144, 1145, 1146, 1147, 1148, 1149, 1150, 1151, 1152] (by decide +kernel) (by decide +kernel)
set_option maxRecDepth 20000 in
theorem gL_law_X10_alter : GoodIn wsL_law (wsV RL 152 RX10 yX10_alter wsX10_alter) := goodIn_app (goodIn_of _ (by decide +kernel)) ggL_law_X10_alter
set_option maxRecDepth 20000 in
theorem ggL_law_X9_cut : GoodIn wsL_law wsX9_cut := goodIn_r _ [1077, 48, 1107, 1108, 1109, 1110, 1111, 1112, 1113, 1114, 1115, 1116, 1205, 1206, 1207, 1208] (by decide +kernel) (by decide +kernel)
set_option maxRecDepth 20000 in
theorem gL_law_X9_cut : GoodIn wsL_law (wsV RL 153 RX9 yX9_cut wsX9_cut) := goodIn_app (goodIn_of _ (by decide +kernel)) ggL_law_X9_cut
set_option maxRecDepth 20000 in
theorem ggL_law_X10_cut : GoodIn wsL_law wsX10_cut := goodIn_r _ [1081, 495, 1117, 1118, 1119, 1120, 1121, 1122, 1123, 1124, 1125, 1126, 1127, 1128, 1129, 1130, 1131, 1132, 1133, 1134, 1135, 1136, 1137, 1138, 1139, 1140, 1141, 1142, 1143, 1144, 1145, 1146, 1147, 1148, 1149, 1150, 1151, 1152] (by decide +kernel) (by decide +kernel)
set_option maxRecDepth 20000 in
theorem gL_law_X10_cut : GoodIn wsL_law (wsV RL 156 RX10 yX10_cut wsX10_cut) := goodIn_app (goodIn_of _ (by decide +kernel)) ggL_law_X10_cut
set_option maxRecDepth 20000 in
theorem ggL_law_X9_shown : GoodIn wsL_law wsX9_shown := goodIn_r _ [1085, 48, 461, 1068, 1069, 1070, 47, 1071, 149, 1107, 1108, 1109, 1110, 1111, 1112, 1113, 1114, 1115, 1116, 1205, 1206, 1207, 1208] (by decide +kernel) (by decide +kernel)
set_option maxRecDepth 20000 in
theorem gL_law_X9_shown : GoodIn wsL_law (wsV RL 157 RX9 yX9_shown wsX9_shown) := goodIn_app (goodIn_of _ (by decide +kernel)) ggL_law_X9_shown
set_option maxRecDepth 20000 in
theorem ggL_law_X10_shown : GoodIn wsL_law wsX10_shown := goodIn_r _ [1089, 495, 470, 168, 169, 170, 1117, 1118, 1119, 1120, 1121, 1122, 1123, 1124, 1125, 1126, 1127, 1128, 1129, 1130, 1131, 1132, 1133, 1134, 1135, 1136, 1137, 1138, 1139, 1140, 1141, 1142, 1143, 1144, 1145, 1146, 1147, 1148, 1149, 1150, 1151, 1152] (by decide +kernel) (by decide +kernel)
set_option maxRecDepth 20000 in
theorem gL_law_X10_shown : GoodIn wsL_law (wsV RL 160 RX10 yX10_shown wsX10_shown) := goodIn_app (goodIn_of _ (by decide +kernel)) ggL_law_X10_shown
set_option maxRecDepth 20000 in
theorem ggL_law_X9_check : GoodIn wsL_law wsX9_check := goodIn_r _ [1093, 44, 48, 749, 750, 751, 2, 752, 24, 475, 476, 477, 23, 478, 88, 479, 480, 481, 482, 483, 484, 485, 757, 758, 759, 760, 36, 40, 425, 426, 427, 428, 90, 89, 91, 80, 87, 85, 84, 429, 335, 336, 19, 337, 74, 73, 338, 339, 340, 341, 342, 75, 71, 343, 61, 62, 63, 344, 345, 346, 347, 67, 68, 69, 430, 431, 432, 433, 434, 81, 82, 435, 436, 437, 438, 439, 440, 441, 442, 443, 444, 407, 408, 409, 410, 386, 387, 388, 411, 412, 761, 762, 763, 35, 764, 117, 118, 121, 122, 765, 766, 767, 768, 39, 769, 130, 134, 127, 770, 771, 772, 773, 774, 775, 776, 777, 778, 779, 780, 781, 782, 783, 1094, 1095, 1096, 43, 1097, 141, 1098, 1099, 1100, 1101, 140, 937, 1102, 963, 964, 965, 952, 953, 954, 955, 142, 956, 785, 786, 787, 131, 132, 133, 129, 788, 789, 790, 791, 792, 793, 794, 795, 796, 797, 798, 799, 800, 801, 802, 803, 804, 805, 806, 807, 808, 809, 135, 810, 811, 812, 813, 814, 815, 816, 817, 818, 819, 820, 821, 822, 823, 824, 825, 128, 826, 827, 828, 829, 957, 831, 832, 833, 834, 835, 921, 922, 923, 924, 938, 939, 940, 941, 942, 943, 944, 945, 946, 947, 948, 949, 950, 951, 966, 967, 968, 969, 970, 971, 972, 973, 119, 120, 974, 975, 976, 977, 978, 979, 980, 981, 1107, 1108, 1109, 1110, 1111, 1112, 1113, 1114, 1115, 1116, 1163, 1164, 1165, 1166, 1167, 1168, 1169, 1170, 1171, 1172, 1173, 1156, 1157, 1158, 1159, 1160, 1161, 1162, 1187, 1188, 1189, 1190, 1191, 1192, 1193, 1194, 1195, 1196, 1197, 1198, 1199, 1200, 1201, 1205, 1206, 1207, 1208, 1202, 1203, 1204] (by decide +kernel) (by decide +kernel)
set_option maxRecDepth 20000 in
theorem gL_law_X9_check : GoodIn wsL_law (wsV RL 161 RX9 yX9_check wsX9_check) := goodIn_app (goodIn_of _ (by decide +kernel)) ggL_law_X9_check
set_option maxRecDepth 20000 in
theorem ggL_law_X10_check : GoodIn wsL_law wsX10_check := goodIn_r _ [1106, 992, 495, 168, 169, 170, 496, 497, 498, 5, 499, 397, 165, 850, 851, 852, 853, 174, 993, 994, 995, 996, 178, 997, 998, 999, 1000, 1012, 1013, 1014, 1015, 1016, 1017, 1018, 1019, 632, 633, 634, 635, 398, 399, 400, 401, 1009, 1010, 1011, 854, 855, 856, 857, 849, 177, 175, 176, 858, 166, 848, 859, 860, 861, 862, 863, 864, 865, 866, 867, 868, 869, 870, 871, 872, 873, 874, 187, 453, 454, 455, 456, 161, 162, 875, 876, 877, 878, 879, 880, 881, 882, 883, 884, 885, 886, 1020, 1021, 1022, 1023, 1024, 1025, 1026, 1027, 1028, 1029, 1030, 1031, 1032, 1033, 1034, 1035, 179, 1005, 1006, 1007, 1008, 449, 450, 451, 452, 163, 164, 1044, 1045, 1046, 1047, 1117, 1118, 1119, 1120, 1121, 1122, 1123, 1124, 1125, 1126, 1127, 1128, 1129, 1130, 1131, 1132, 1133, 1134, 1135, 1136, 1137, 1138, 1139, 1140, 1141, 1142, 1143, 1144, 1145, 1146, 1147, 1148, 1149, 1150, 1151, 1152] (by decide +kernel) (by decide +kernel)
set_option maxRecDepth 20000 in
theorem gL_law_X10_check : GoodIn wsL_law (wsV RL 164 RX10 yX10_check wsX10_check) := goodIn_app (goodIn_of _ (by decide +kernel)) ggL_law_X10_check
theorem dL_law_0 : decode cL_law 0 = .ok (.new 7, 3) := by decide +kernel
theorem dL_law_3 : decode cL_law 3 = .ok (.dup, 1) := by decide +kernel
theorem dL_law_4 : decode cL_law 4 = .ok (.invokespecial 9, 3) := by decide +kernel
theorem dL_law_7 : decode cL_law 7 = .ok (.astore_n 1, 1) := by decide +kernel
theorem dL_law_8 : decode cL_law 8 = .ok (.new 10, 3) := by decide +kernel
theorem dL_law_11 : decode cL_law 11 = .ok (.dup, 1) := by decide +kernel
theorem dL_law_12 : decode cL_law 12 = .ok (.invokespecial 12, 3) := by decide +kernel
theorem dL_law_15 : decode cL_law 15 = .ok (.astore_n 2, 1) := by decide +kernel
theorem dL_law_16 : decode cL_law 16 = .ok (.iconst 0, 1) := by decide +kernel
theorem dL_law_17 : decode cL_law 17 = .ok (.istore_n 3, 1) := by decide +kernel
theorem dL_law_18 : decode cL_law 18 = .ok (.iload_n 3, 1) := by decide +kernel
theorem dL_law_19 : decode cL_law 19 = .ok (.aload_n 0, 1) := by decide +kernel
theorem dL_law_20 : decode cL_law 20 = .ok (.arraylength, 1) := by decide +kernel
theorem dL_law_21 : decode cL_law 21 = .ok (.iconst 5, 1) := by decide +kernel
theorem dL_law_22 : decode cL_law 22 = .ok (.isub, 1) := by decide +kernel
theorem dL_law_23 : decode cL_law 23 = .ok (.if_icmp .gt 1276, 3) := by decide +kernel
theorem dL_law_26 : decode cL_law 26 = .ok (.aload_n 0, 1) := by decide +kernel
theorem dL_law_27 : decode cL_law 27 = .ok (.iload_n 3, 1) := by decide +kernel
theorem dL_law_28 : decode cL_law 28 = .ok (.iaload, 1) := by decide +kernel
theorem dL_law_29 : decode cL_law 29 = .ok (.bipush 63, 2) := by decide +kernel
theorem dL_law_31 : decode cL_law 31 = .ok (.iand, 1) := by decide +kernel
theorem dL_law_32 : decode cL_law 32 = .ok (.tableswitch 1261 0 34 #[156, 199, 248, 281, 324, 397, 431, 454, 507, 540, 583, 626, 675, 698, 731, 754, 767, 780, 839, 862, 875, 898, 911, 924, 957, 970, 1003, 1026, 1040, 1063, 1086, 1129, 1182, 1205, 1238], 156) := by decide +kernel
theorem dL_law_188 : decode cL_law 188 = .ok (.aload_n 1, 1) := by decide +kernel
theorem dL_law_189 : decode cL_law 189 = .ok (.aload_n 0, 1) := by decide +kernel
theorem dL_law_190 : decode cL_law 190 = .ok (.iload_n 3, 1) := by decide +kernel
theorem dL_law_191 : decode cL_law 191 = .ok (.iconst 1, 1) := by decide +kernel
theorem dL_law_192 : decode cL_law 192 = .ok (.iadd, 1) := by decide +kernel
theorem dL_law_193 : decode cL_law 193 = .ok (.iaload, 1) := by decide +kernel
theorem dL_law_194 : decode cL_law 194 = .ok (.aload_n 0, 1) := by decide +kernel
theorem dL_law_195 : decode cL_law 195 = .ok (.iload_n 3, 1) := by decide +kernel
theorem dL_law_196 : decode cL_law 196 = .ok (.iconst 2, 1) := by decide +kernel
theorem dL_law_197 : decode cL_law 197 = .ok (.iadd, 1) := by decide +kernel
theorem dL_law_198 : decode cL_law 198 = .ok (.iaload, 1) := by decide +kernel
theorem dL_law_199 : decode cL_law 199 = .ok (.aload_n 0, 1) := by decide +kernel
theorem dL_law_200 : decode cL_law 200 = .ok (.iload_n 3, 1) := by decide +kernel
theorem dL_law_201 : decode cL_law 201 = .ok (.iconst 3, 1) := by decide +kernel
theorem dL_law_202 : decode cL_law 202 = .ok (.iadd, 1) := by decide +kernel
theorem dL_law_203 : decode cL_law 203 = .ok (.iaload, 1) := by decide +kernel
theorem dL_law_204 : decode cL_law 204 = .ok (.invokevirtual 13, 3) := by decide +kernel
theorem dL_law_207 : decode cL_law 207 = .ok (.aload_n 2, 1) := by decide +kernel
theorem dL_law_208 : decode cL_law 208 = .ok (.aload_n 0, 1) := by decide +kernel
theorem dL_law_209 : decode cL_law 209 = .ok (.iload_n 3, 1) := by decide +kernel
theorem dL_law_210 : decode cL_law 210 = .ok (.iconst 1, 1) := by decide +kernel
theorem dL_law_211 : decode cL_law 211 = .ok (.iadd, 1) := by decide +kernel
theorem dL_law_212 : decode cL_law 212 = .ok (.iaload, 1) := by decide +kernel
theorem dL_law_213 : decode cL_law 213 = .ok (.aload_n 0, 1) := by decide +kernel
theorem dL_law_214 : decode cL_law 214 = .ok (.iload_n 3, 1) := by decide +kernel
theorem dL_law_215 : decode cL_law 215 = .ok (.iconst 2, 1) := by decide +kernel
theorem dL_law_216 : decode cL_law 216 = .ok (.iadd, 1) := by decide +kernel
theorem dL_law_217 : decode cL_law 217 = .ok (.iaload, 1) := by decide +kernel
theorem dL_law_218 : decode cL_law 218 = .ok (.aload_n 0, 1) := by decide +kernel
theorem dL_law_219 : decode cL_law 219 = .ok (.iload_n 3, 1) := by decide +kernel
theorem dL_law_220 : decode cL_law 220 = .ok (.iconst 3, 1) := by decide +kernel
theorem dL_law_221 : decode cL_law 221 = .ok (.iadd, 1) := by decide +kernel
theorem dL_law_222 : decode cL_law 222 = .ok (.iaload, 1) := by decide +kernel
theorem dL_law_223 : decode cL_law 223 = .ok (.invokevirtual 17, 3) := by decide +kernel
theorem dL_law_226 : decode cL_law 226 = .ok (.if_icmp .eq 1067, 3) := by decide +kernel
theorem dL_law_229 : decode cL_law 229 = .ok (.iconst 0, 1) := by decide +kernel
theorem dL_law_230 : decode cL_law 230 = .ok (.ireturn, 1) := by decide +kernel
theorem dL_law_231 : decode cL_law 231 = .ok (.aload_n 1, 1) := by decide +kernel
theorem dL_law_232 : decode cL_law 232 = .ok (.aload_n 0, 1) := by decide +kernel
theorem dL_law_233 : decode cL_law 233 = .ok (.iload_n 3, 1) := by decide +kernel
theorem dL_law_234 : decode cL_law 234 = .ok (.iconst 1, 1) := by decide +kernel
theorem dL_law_235 : decode cL_law 235 = .ok (.iadd, 1) := by decide +kernel
theorem dL_law_236 : decode cL_law 236 = .ok (.iaload, 1) := by decide +kernel
theorem dL_law_237 : decode cL_law 237 = .ok (.aload_n 0, 1) := by decide +kernel
theorem dL_law_238 : decode cL_law 238 = .ok (.iload_n 3, 1) := by decide +kernel
theorem dL_law_239 : decode cL_law 239 = .ok (.iconst 2, 1) := by decide +kernel
theorem dL_law_240 : decode cL_law 240 = .ok (.iadd, 1) := by decide +kernel
theorem dL_law_241 : decode cL_law 241 = .ok (.iaload, 1) := by decide +kernel
theorem dL_law_242 : decode cL_law 242 = .ok (.ifCond .eq 7, 3) := by decide +kernel
theorem dL_law_245 : decode cL_law 245 = .ok (.iconst 1, 1) := by decide +kernel
theorem dL_law_246 : decode cL_law 246 = .ok (.goto 4, 3) := by decide +kernel
theorem dL_law_249 : decode cL_law 249 = .ok (.iconst 0, 1) := by decide +kernel
theorem dL_law_250 : decode cL_law 250 = .ok (.invokevirtual 18, 3) := by decide +kernel
theorem dL_law_253 : decode cL_law 253 = .ok (.aload_n 2, 1) := by decide +kernel
theorem dL_law_254 : decode cL_law 254 = .ok (.aload_n 0, 1) := by decide +kernel
theorem dL_law_255 : decode cL_law 255 = .ok (.iload_n 3, 1) := by decide +kernel
theorem dL_law_256 : decode cL_law 256 = .ok (.iconst 1, 1) := by decide +kernel
theorem dL_law_257 : decode cL_law 257 = .ok (.iadd, 1) := by decide +kernel
theorem dL_law_258 : decode cL_law 258 = .ok (.iaload, 1) := by decide +kernel
theorem dL_law_259 : decode cL_law 259 = .ok (.aload_n 0, 1) := by decide +kernel
theorem dL_law_260 : decode cL_law 260 = .ok (.iload_n 3, 1) := by decide +kernel
theorem dL_law_261 : decode cL_law 261 = .ok (.iconst 2, 1) := by decide +kernel
theorem dL_law_262 : decode cL_law 262 = .ok (.iadd, 1) := by decide +kernel
theorem dL_law_263 : decode cL_law 263 = .ok (.iaload, 1) := by decide +kernel
theorem dL_law_264 : decode cL_law 264 = .ok (.ifCond .eq 7, 3) := by decide +kernel
theorem dL_law_267 : decode cL_law 267 = .ok (.iconst 1, 1) := by decide +kernel
theorem dL_law_268 : decode cL_law 268 = .ok (.goto 4, 3) := by decide +kernel
theorem dL_law_271 : decode cL_law 271 = .ok (.iconst 0, 1) := by decide +kernel
theorem dL_law_272 : decode cL_law 272 = .ok (.invokevirtual 22, 3) := by decide +kernel
theorem dL_law_275 : decode cL_law 275 = .ok (.if_icmp .eq 1018, 3) := by decide +kernel
theorem dL_law_278 : decode cL_law 278 = .ok (.iconst 0, 1) := by decide +kernel
theorem dL_law_279 : decode cL_law 279 = .ok (.ireturn, 1) := by decide +kernel
theorem dL_law_280 : decode cL_law 280 = .ok (.aload_n 1, 1) := by decide +kernel
theorem dL_law_281 : decode cL_law 281 = .ok (.aload_n 0, 1) := by decide +kernel
theorem dL_law_282 : decode cL_law 282 = .ok (.iload_n 3, 1) := by decide +kernel
theorem dL_law_283 : decode cL_law 283 = .ok (.iconst 1, 1) := by decide +kernel
theorem dL_law_284 : decode cL_law 284 = .ok (.iadd, 1) := by decide +kernel
theorem dL_law_285 : decode cL_law 285 = .ok (.iaload, 1) := by decide +kernel
theorem dL_law_286 : decode cL_law 286 = .ok (.aload_n 0, 1) := by decide +kernel
theorem dL_law_287 : decode cL_law 287 = .ok (.iload_n 3, 1) := by decide +kernel
theorem dL_law_288 : decode cL_law 288 = .ok (.iconst 2, 1) := by decide +kernel
theorem dL_law_289 : decode cL_law 289 = .ok (.iadd, 1) := by decide +kernel
theorem dL_law_290 : decode cL_law 290 = .ok (.iaload, 1) := by decide +kernel
theorem dL_law_291 : decode cL_law 291 = .ok (.invokevirtual 23, 3) := by decide +kernel
theorem dL_law_294 : decode cL_law 294 = .ok (.aload_n 2, 1) := by decide +kernel
theorem dL_law_295 : decode cL_law 295 = .ok (.aload_n 0, 1) := by decide +kernel
theorem dL_law_296 : decode cL_law 296 = .ok (.iload_n 3, 1) := by decide +kernel
theorem dL_law_297 : decode cL_law 297 = .ok (.iconst 1, 1) := by decide +kernel
theorem dL_law_298 : decode cL_law 298 = .ok (.iadd, 1) := by decide +kernel
theorem dL_law_299 : decode cL_law 299 = .ok (.iaload, 1) := by decide +kernel
theorem dL_law_300 : decode cL_law 300 = .ok (.aload_n 0, 1) := by decide +kernel
theorem dL_law_301 : decode cL_law 301 = .ok (.iload_n 3, 1) := by decide +kernel
theorem dL_law_302 : decode cL_law 302 = .ok (.iconst 2, 1) := by decide +kernel
theorem dL_law_303 : decode cL_law 303 = .ok (.iadd, 1) := by decide +kernel
theorem dL_law_304 : decode cL_law 304 = .ok (.iaload, 1) := by decide +kernel
theorem dL_law_305 : decode cL_law 305 = .ok (.invokevirtual 27, 3) := by decide +kernel
theorem dL_law_308 : decode cL_law 308 = .ok (.if_icmp .eq 985, 3) := by decide +kernel
theorem dL_law_311 : decode cL_law 311 = .ok (.iconst 0, 1) := by decide +kernel
theorem dL_law_312 : decode cL_law 312 = .ok (.ireturn, 1) := by decide +kernel
theorem dL_law_313 : decode cL_law 313 = .ok (.aload_n 1, 1) := by decide +kernel
theorem dL_law_314 : decode cL_law 314 = .ok (.aload_n 0, 1) := by decide +kernel
theorem dL_law_315 : decode cL_law 315 = .ok (.iload_n 3, 1) := by decide +kernel
theorem dL_law_316 : decode cL_law 316 = .ok (.iconst 1, 1) := by decide +kernel
theorem dL_law_317 : decode cL_law 317 = .ok (.iadd, 1) := by decide +kernel
theorem dL_law_318 : decode cL_law 318 = .ok (.iaload, 1) := by decide +kernel
theorem dL_law_319 : decode cL_law 319 = .ok (.aload_n 0, 1) := by decide +kernel
theorem dL_law_320 : decode cL_law 320 = .ok (.iload_n 3, 1) := by decide +kernel
theorem dL_law_321 : decode cL_law 321 = .ok (.iconst 2, 1) := by decide +kernel
theorem dL_law_322 : decode cL_law 322 = .ok (.iadd, 1) := by decide +kernel
theorem dL_law_323 : decode cL_law 323 = .ok (.iaload, 1) := by decide +kernel
theorem dL_law_324 : decode cL_law 324 = .ok (.aload_n 0, 1) := by decide +kernel
theorem dL_law_325 : decode cL_law 325 = .ok (.iload_n 3, 1) := by decide +kernel
theorem dL_law_326 : decode cL_law 326 = .ok (.iconst 3, 1) := by decide +kernel
theorem dL_law_327 : decode cL_law 327 = .ok (.iadd, 1) := by decide +kernel
theorem dL_law_328 : decode cL_law 328 = .ok (.iaload, 1) := by decide +kernel
theorem dL_law_329 : decode cL_law 329 = .ok (.invokevirtual 28, 3) := by decide +kernel
theorem dL_law_332 : decode cL_law 332 = .ok (.aload_n 2, 1) := by decide +kernel
theorem dL_law_333 : decode cL_law 333 = .ok (.aload_n 0, 1) := by decide +kernel
theorem dL_law_334 : decode cL_law 334 = .ok (.iload_n 3, 1) := by decide +kernel
theorem dL_law_335 : decode cL_law 335 = .ok (.iconst 1, 1) := by decide +kernel
theorem dL_law_336 : decode cL_law 336 = .ok (.iadd, 1) := by decide +kernel
theorem dL_law_337 : decode cL_law 337 = .ok (.iaload, 1) := by decide +kernel
theorem dL_law_338 : decode cL_law 338 = .ok (.aload_n 0, 1) := by decide +kernel
theorem dL_law_339 : decode cL_law 339 = .ok (.iload_n 3, 1) := by decide +kernel
theorem dL_law_340 : decode cL_law 340 = .ok (.iconst 2, 1) := by decide +kernel
theorem dL_law_341 : decode cL_law 341 = .ok (.iadd, 1) := by decide +kernel
theorem dL_law_342 : decode cL_law 342 = .ok (.iaload, 1) := by decide +kernel
theorem dL_law_343 : decode cL_law 343 = .ok (.aload_n 0, 1) := by decide +kernel
theorem dL_law_344 : decode cL_law 344 = .ok (.iload_n 3, 1) := by decide +kernel
theorem dL_law_345 : decode cL_law 345 = .ok (.iconst 3, 1) := by decide +kernel
theorem dL_law_346 : decode cL_law 346 = .ok (.iadd, 1) := by decide +kernel
theorem dL_law_347 : decode cL_law 347 = .ok (.iaload, 1) := by decide +kernel
theorem dL_law_348 : decode cL_law 348 = .ok (.invokevirtual 31, 3) := by decide +kernel
theorem dL_law_351 : decode cL_law 351 = .ok (.if_icmp .eq 942, 3) := by decide +kernel
theorem dL_law_354 : decode cL_law 354 = .ok (.iconst 0, 1) := by decide +kernel
theorem dL_law_355 : decode cL_law 355 = .ok (.ireturn, 1) := by decide +kernel
theorem dL_law_356 : decode cL_law 356 = .ok (.aload_n 1, 1) := by decide +kernel
theorem dL_law_357 : decode cL_law 357 = .ok (.aload_n 0, 1) := by decide +kernel
theorem dL_law_358 : decode cL_law 358 = .ok (.iload_n 3, 1) := by decide +kernel
theorem dL_law_359 : decode cL_law 359 = .ok (.iconst 1, 1) := by decide +kernel
theorem dL_law_360 : decode cL_law 360 = .ok (.iadd, 1) := by decide +kernel
theorem dL_law_361 : decode cL_law 361 = .ok (.iaload, 1) := by decide +kernel
theorem dL_law_362 : decode cL_law 362 = .ok (.aload_n 0, 1) := by decide +kernel
theorem dL_law_363 : decode cL_law 363 = .ok (.iload_n 3, 1) := by decide +kernel
theorem dL_law_364 : decode cL_law 364 = .ok (.iconst 2, 1) := by decide +kernel
theorem dL_law_365 : decode cL_law 365 = .ok (.iadd, 1) := by decide +kernel
theorem dL_law_366 : decode cL_law 366 = .ok (.iaload, 1) := by decide +kernel
theorem dL_law_367 : decode cL_law 367 = .ok (.aload_n 0, 1) := by decide +kernel
theorem dL_law_368 : decode cL_law 368 = .ok (.iload_n 3, 1) := by decide +kernel
theorem dL_law_369 : decode cL_law 369 = .ok (.iconst 3, 1) := by decide +kernel
theorem dL_law_370 : decode cL_law 370 = .ok (.iadd, 1) := by decide +kernel
theorem dL_law_371 : decode cL_law 371 = .ok (.iaload, 1) := by decide +kernel
theorem dL_law_372 : decode cL_law 372 = .ok (.i2l, 1) := by decide +kernel
theorem dL_law_373 : decode cL_law 373 = .ok (.bipush 32, 2) := by decide +kernel
theorem dL_law_375 : decode cL_law 375 = .ok (.lshl, 1) := by decide +kernel
theorem dL_law_376 : decode cL_law 376 = .ok (.aload_n 0, 1) := by decide +kernel
theorem dL_law_377 : decode cL_law 377 = .ok (.iload_n 3, 1) := by decide +kernel
theorem dL_law_378 : decode cL_law 378 = .ok (.iconst 4, 1) := by decide +kernel
theorem dL_law_379 : decode cL_law 379 = .ok (.iadd, 1) := by decide +kernel
theorem dL_law_380 : decode cL_law 380 = .ok (.iaload, 1) := by decide +kernel
theorem dL_law_381 : decode cL_law 381 = .ok (.i2l, 1) := by decide +kernel
theorem dL_law_382 : decode cL_law 382 = .ok (.ldc2_w 32, 3) := by decide +kernel
theorem dL_law_385 : decode cL_law 385 = .ok (.land, 1) := by decide +kernel
theorem dL_law_386 : decode cL_law 386 = .ok (.lor, 1) := by decide +kernel
theorem dL_law_387 : decode cL_law 387 = .ok (.invokevirtual 34, 3) := by decide +kernel
theorem dL_law_390 : decode cL_law 390 = .ok (.aload_n 2, 1) := by decide +kernel
theorem dL_law_391 : decode cL_law 391 = .ok (.aload_n 0, 1) := by decide +kernel
theorem dL_law_392 : decode cL_law 392 = .ok (.iload_n 3, 1) := by decide +kernel
theorem dL_law_393 : decode cL_law 393 = .ok (.iconst 1, 1) := by decide +kernel
theorem dL_law_394 : decode cL_law 394 = .ok (.iadd, 1) := by decide +kernel
theorem dL_law_395 : decode cL_law 395 = .ok (.iaload, 1) := by decide +kernel
theorem dL_law_396 : decode cL_law 396 = .ok (.aload_n 0, 1) := by decide +kernel
theorem dL_law_397 : decode cL_law 397 = .ok (.iload_n 3, 1) := by decide +kernel
theorem dL_law_398 : decode cL_law 398 = .ok (.iconst 2, 1) := by decide +kernel
theorem dL_law_399 : decode cL_law 399 = .ok (.iadd, 1) := by decide +kernel
theorem dL_law_400 : decode cL_law 400 = .ok (.iaload, 1) := by decide +kernel
theorem dL_law_401 : decode cL_law 401 = .ok (.aload_n 0, 1) := by decide +kernel
theorem dL_law_402 : decode cL_law 402 = .ok (.iload_n 3, 1) := by decide +kernel
theorem dL_law_403 : decode cL_law 403 = .ok (.iconst 3, 1) := by decide +kernel
theorem dL_law_404 : decode cL_law 404 = .ok (.iadd, 1) := by decide +kernel
theorem dL_law_405 : decode cL_law 405 = .ok (.iaload, 1) := by decide +kernel
theorem dL_law_406 : decode cL_law 406 = .ok (.i2l, 1) := by decide +kernel
theorem dL_law_407 : decode cL_law 407 = .ok (.bipush 32, 2) := by decide +kernel
theorem dL_law_409 : decode cL_law 409 = .ok (.lshl, 1) := by decide +kernel
theorem dL_law_410 : decode cL_law 410 = .ok (.aload_n 0, 1) := by decide +kernel
theorem dL_law_411 : decode cL_law 411 = .ok (.iload_n 3, 1) := by decide +kernel
theorem dL_law_412 : decode cL_law 412 = .ok (.iconst 4, 1) := by decide +kernel
theorem dL_law_413 : decode cL_law 413 = .ok (.iadd, 1) := by decide +kernel
theorem dL_law_414 : decode cL_law 414 = .ok (.iaload, 1) := by decide +kernel
theorem dL_law_415 : decode cL_law 415 = .ok (.i2l, 1) := by decide +kernel
theorem dL_law_416 : decode cL_law 416 = .ok (.ldc2_w 32, 3) := by decide +kernel
theorem dL_law_419 : decode cL_law 419 = .ok (.land, 1) := by decide +kernel
theorem dL_law_420 : decode cL_law 420 = .ok (.lor, 1) := by decide +kernel
theorem dL_law_421 : decode cL_law 421 = .ok (.invokevirtual 38, 3) := by decide +kernel
theorem dL_law_424 : decode cL_law 424 = .ok (.if_icmp .eq 869, 3) := by decide +kernel
theorem dL_law_427 : decode cL_law 427 = .ok (.iconst 0, 1) := by decide +kernel
theorem dL_law_428 : decode cL_law 428 = .ok (.ireturn, 1) := by decide +kernel
theorem dL_law_429 : decode cL_law 429 = .ok (.aload_n 1, 1) := by decide +kernel
theorem dL_law_430 : decode cL_law 430 = .ok (.aload_n 0, 1) := by decide +kernel
theorem dL_law_431 : decode cL_law 431 = .ok (.iload_n 3, 1) := by decide +kernel
theorem dL_law_432 : decode cL_law 432 = .ok (.iconst 1, 1) := by decide +kernel
theorem dL_law_433 : decode cL_law 433 = .ok (.iadd, 1) := by decide +kernel
theorem dL_law_434 : decode cL_law 434 = .ok (.iaload, 1) := by decide +kernel
theorem dL_law_435 : decode cL_law 435 = .ok (.aload_n 0, 1) := by decide +kernel
theorem dL_law_436 : decode cL_law 436 = .ok (.iload_n 3, 1) := by decide +kernel
theorem dL_law_437 : decode cL_law 437 = .ok (.iconst 2, 1) := by decide +kernel
theorem dL_law_438 : decode cL_law 438 = .ok (.iadd, 1) := by decide +kernel
theorem dL_law_439 : decode cL_law 439 = .ok (.iaload, 1) := by decide +kernel
theorem dL_law_440 : decode cL_law 440 = .ok (.invokevirtual 39, 3) := by decide +kernel
theorem dL_law_443 : decode cL_law 443 = .ok (.aload_n 2, 1) := by decide +kernel
theorem dL_law_444 : decode cL_law 444 = .ok (.aload_n 0, 1) := by decide +kernel
theorem dL_law_445 : decode cL_law 445 = .ok (.iload_n 3, 1) := by decide +kernel
theorem dL_law_446 : decode cL_law 446 = .ok (.iconst 1, 1) := by decide +kernel
theorem dL_law_447 : decode cL_law 447 = .ok (.iadd, 1) := by decide +kernel
theorem dL_law_448 : decode cL_law 448 = .ok (.iaload, 1) := by decide +kernel
theorem dL_law_449 : decode cL_law 449 = .ok (.aload_n 0, 1) := by decide +kernel
theorem dL_law_450 : decode cL_law 450 = .ok (.iload_n 3, 1) := by decide +kernel
theorem dL_law_451 : decode cL_law 451 = .ok (.iconst 2, 1) := by decide +kernel
theorem dL_law_452 : decode cL_law 452 = .ok (.iadd, 1) := by decide +kernel
theorem dL_law_453 : decode cL_law 453 = .ok (.iaload, 1) := by decide +kernel
theorem dL_law_454 : decode cL_law 454 = .ok (.invokevirtual 43, 3) := by decide +kernel
theorem dL_law_457 : decode cL_law 457 = .ok (.lcmp, 1) := by decide +kernel
theorem dL_law_458 : decode cL_law 458 = .ok (.ifCond .eq 835, 3) := by decide +kernel
theorem dL_law_461 : decode cL_law 461 = .ok (.iconst 0, 1) := by decide +kernel
theorem dL_law_462 : decode cL_law 462 = .ok (.ireturn, 1) := by decide +kernel
theorem dL_law_463 : decode cL_law 463 = .ok (.aload_n 1, 1) := by decide +kernel
theorem dL_law_464 : decode cL_law 464 = .ok (.aload_n 0, 1) := by decide +kernel
theorem dL_law_465 : decode cL_law 465 = .ok (.iload_n 3, 1) := by decide +kernel
theorem dL_law_466 : decode cL_law 466 = .ok (.iconst 1, 1) := by decide +kernel
theorem dL_law_467 : decode cL_law 467 = .ok (.iadd, 1) := by decide +kernel
theorem dL_law_468 : decode cL_law 468 = .ok (.iaload, 1) := by decide +kernel
theorem dL_law_469 : decode cL_law 469 = .ok (.invokevirtual 44, 3) := by decide +kernel
theorem dL_law_472 : decode cL_law 472 = .ok (.aload_n 2, 1) := by decide +kernel
theorem dL_law_473 : decode cL_law 473 = .ok (.aload_n 0, 1) := by decide +kernel
theorem dL_law_474 : decode cL_law 474 = .ok (.iload_n 3, 1) := by decide +kernel
theorem dL_law_475 : decode cL_law 475 = .ok (.iconst 1, 1) := by decide +kernel
theorem dL_law_476 : decode cL_law 476 = .ok (.iadd, 1) := by decide +kernel
theorem dL_law_477 : decode cL_law 477 = .ok (.iaload, 1) := by decide +kernel
theorem dL_law_478 : decode cL_law 478 = .ok (.invokevirtual 48, 3) := by decide +kernel
theorem dL_law_481 : decode cL_law 481 = .ok (.if_icmp .eq 812, 3) := by decide +kernel
theorem dL_law_484 : decode cL_law 484 = .ok (.iconst 0, 1) := by decide +kernel
theorem dL_law_485 : decode cL_law 485 = .ok (.ireturn, 1) := by decide +kernel
theorem dL_law_486 : decode cL_law 486 = .ok (.aload_n 1, 1) := by decide +kernel
theorem dL_law_487 : decode cL_law 487 = .ok (.aload_n 0, 1) := by decide +kernel
theorem dL_law_488 : decode cL_law 488 = .ok (.iload_n 3, 1) := by decide +kernel
theorem dL_law_489 : decode cL_law 489 = .ok (.iconst 1, 1) := by decide +kernel
theorem dL_law_490 : decode cL_law 490 = .ok (.iadd, 1) := by decide +kernel
theorem dL_law_491 : decode cL_law 491 = .ok (.iaload, 1) := by decide +kernel
theorem dL_law_492 : decode cL_law 492 = .ok (.aload_n 0, 1) := by decide +kernel
theorem dL_law_493 : decode cL_law 493 = .ok (.iload_n 3, 1) := by decide +kernel
theorem dL_law_494 : decode cL_law 494 = .ok (.iconst 2, 1) := by decide +kernel
theorem dL_law_495 : decode cL_law 495 = .ok (.iadd, 1) := by decide +kernel
theorem dL_law_496 : decode cL_law 496 = .ok (.iaload, 1) := by decide +kernel
theorem dL_law_497 : decode cL_law 497 = .ok (.aload_n 0, 1) := by decide +kernel
theorem dL_law_498 : decode cL_law 498 = .ok (.iload_n 3, 1) := by decide +kernel
theorem dL_law_499 : decode cL_law 499 = .ok (.iconst 3, 1) := by decide +kernel
theorem dL_law_500 : decode cL_law 500 = .ok (.iadd, 1) := by decide +kernel
theorem dL_law_501 : decode cL_law 501 = .ok (.iaload, 1) := by decide +kernel
theorem dL_law_502 : decode cL_law 502 = .ok (.aload_n 0, 1) := by decide +kernel
theorem dL_law_503 : decode cL_law 503 = .ok (.iload_n 3, 1) := by decide +kernel
theorem dL_law_504 : decode cL_law 504 = .ok (.iconst 4, 1) := by decide +kernel
theorem dL_law_505 : decode cL_law 505 = .ok (.iadd, 1) := by decide +kernel
theorem dL_law_506 : decode cL_law 506 = .ok (.iaload, 1) := by decide +kernel
theorem dL_law_507 : decode cL_law 507 = .ok (.invokevirtual 49, 3) := by decide +kernel
theorem dL_law_510 : decode cL_law 510 = .ok (.aload_n 2, 1) := by decide +kernel
theorem dL_law_511 : decode cL_law 511 = .ok (.aload_n 0, 1) := by decide +kernel
theorem dL_law_512 : decode cL_law 512 = .ok (.iload_n 3, 1) := by decide +kernel
theorem dL_law_513 : decode cL_law 513 = .ok (.iconst 1, 1) := by decide +kernel
theorem dL_law_514 : decode cL_law 514 = .ok (.iadd, 1) := by decide +kernel
theorem dL_law_515 : decode cL_law 515 = .ok (.iaload, 1) := by decide +kernel
theorem dL_law_516 : decode cL_law 516 = .ok (.aload_n 0, 1) := by decide +kernel
theorem dL_law_517 : decode cL_law 517 = .ok (.iload_n 3, 1) := by decide +kernel
theorem dL_law_518 : decode cL_law 518 = .ok (.iconst 2, 1) := by decide +kernel
theorem dL_law_519 : decode cL_law 519 = .ok (.iadd, 1) := by decide +kernel
theorem dL_law_520 : decode cL_law 520 = .ok (.iaload, 1) := by decide +kernel
theorem dL_law_521 : decode cL_law 521 = .ok (.aload_n 0, 1) := by decide +kernel
theorem dL_law_522 : decode cL_law 522 = .ok (.iload_n 3, 1) := by decide +kernel
theorem dL_law_523 : decode cL_law 523 = .ok (.iconst 3, 1) := by decide +kernel
theorem dL_law_524 : decode cL_law 524 = .ok (.iadd, 1) := by decide +kernel
theorem dL_law_525 : decode cL_law 525 = .ok (.iaload, 1) := by decide +kernel
theorem dL_law_526 : decode cL_law 526 = .ok (.aload_n 0, 1) := by decide +kernel
theorem dL_law_527 : decode cL_law 527 = .ok (.iload_n 3, 1) := by decide +kernel
theorem dL_law_528 : decode cL_law 528 = .ok (.iconst 4, 1) := by decide +kernel
theorem dL_law_529 : decode cL_law 529 = .ok (.iadd, 1) := by decide +kernel
theorem dL_law_530 : decode cL_law 530 = .ok (.iaload, 1) := by decide +kernel
theorem dL_law_531 : decode cL_law 531 = .ok (.invokevirtual 53, 3) := by decide +kernel
theorem dL_law_534 : decode cL_law 534 = .ok (.if_icmp .eq 759, 3) := by decide +kernel
theorem dL_law_537 : decode cL_law 537 = .ok (.iconst 0, 1) := by decide +kernel
theorem dL_law_538 : decode cL_law 538 = .ok (.ireturn, 1) := by decide +kernel
theorem dL_law_539 : decode cL_law 539 = .ok (.aload_n 1, 1) := by decide +kernel
theorem dL_law_540 : decode cL_law 540 = .ok (.aload_n 0, 1) := by decide +kernel
theorem dL_law_541 : decode cL_law 541 = .ok (.iload_n 3, 1) := by decide +kernel
theorem dL_law_542 : decode cL_law 542 = .ok (.iconst 1, 1) := by decide +kernel
theorem dL_law_543 : decode cL_law 543 = .ok (.iadd, 1) := by decide +kernel
theorem dL_law_544 : decode cL_law 544 = .ok (.iaload, 1) := by decide +kernel
theorem dL_law_545 : decode cL_law 545 = .ok (.aload_n 0, 1) := by decide +kernel
theorem dL_law_546 : decode cL_law 546 = .ok (.iload_n 3, 1) := by decide +kernel
theorem dL_law_547 : decode cL_law 547 = .ok (.iconst 2, 1) := by decide +kernel
theorem dL_law_548 : decode cL_law 548 = .ok (.iadd, 1) := by decide +kernel
theorem dL_law_549 : decode cL_law 549 = .ok (.iaload, 1) := by decide +kernel
theorem dL_law_550 : decode cL_law 550 = .ok (.invokevirtual 54, 3) := by decide +kernel
theorem dL_law_553 : decode cL_law 553 = .ok (.aload_n 2, 1) := by decide +kernel
theorem dL_law_554 : decode cL_law 554 = .ok (.aload_n 0, 1) := by decide +kernel
theorem dL_law_555 : decode cL_law 555 = .ok (.iload_n 3, 1) := by decide +kernel
theorem dL_law_556 : decode cL_law 556 = .ok (.iconst 1, 1) := by decide +kernel
theorem dL_law_557 : decode cL_law 557 = .ok (.iadd, 1) := by decide +kernel
theorem dL_law_558 : decode cL_law 558 = .ok (.iaload, 1) := by decide +kernel
theorem dL_law_559 : decode cL_law 559 = .ok (.aload_n 0, 1) := by decide +kernel
theorem dL_law_560 : decode cL_law 560 = .ok (.iload_n 3, 1) := by decide +kernel
theorem dL_law_561 : decode cL_law 561 = .ok (.iconst 2, 1) := by decide +kernel
theorem dL_law_562 : decode cL_law 562 = .ok (.iadd, 1) := by decide +kernel
theorem dL_law_563 : decode cL_law 563 = .ok (.iaload, 1) := by decide +kernel
theorem dL_law_564 : decode cL_law 564 = .ok (.invokevirtual 57, 3) := by decide +kernel
theorem dL_law_567 : decode cL_law 567 = .ok (.if_icmp .eq 726, 3) := by decide +kernel
theorem dL_law_570 : decode cL_law 570 = .ok (.iconst 0, 1) := by decide +kernel
theorem dL_law_571 : decode cL_law 571 = .ok (.ireturn, 1) := by decide +kernel
theorem dL_law_572 : decode cL_law 572 = .ok (.aload_n 1, 1) := by decide +kernel
theorem dL_law_573 : decode cL_law 573 = .ok (.aload_n 0, 1) := by decide +kernel
theorem dL_law_574 : decode cL_law 574 = .ok (.iload_n 3, 1) := by decide +kernel
theorem dL_law_575 : decode cL_law 575 = .ok (.iconst 1, 1) := by decide +kernel
theorem dL_law_576 : decode cL_law 576 = .ok (.iadd, 1) := by decide +kernel
theorem dL_law_577 : decode cL_law 577 = .ok (.iaload, 1) := by decide +kernel
theorem dL_law_578 : decode cL_law 578 = .ok (.aload_n 0, 1) := by decide +kernel
theorem dL_law_579 : decode cL_law 579 = .ok (.iload_n 3, 1) := by decide +kernel
theorem dL_law_580 : decode cL_law 580 = .ok (.iconst 2, 1) := by decide +kernel
theorem dL_law_581 : decode cL_law 581 = .ok (.iadd, 1) := by decide +kernel
theorem dL_law_582 : decode cL_law 582 = .ok (.iaload, 1) := by decide +kernel
theorem dL_law_583 : decode cL_law 583 = .ok (.aload_n 0, 1) := by decide +kernel
theorem dL_law_584 : decode cL_law 584 = .ok (.iload_n 3, 1) := by decide +kernel
theorem dL_law_585 : decode cL_law 585 = .ok (.iconst 3, 1) := by decide +kernel
theorem dL_law_586 : decode cL_law 586 = .ok (.iadd, 1) := by decide +kernel
theorem dL_law_587 : decode cL_law 587 = .ok (.iaload, 1) := by decide +kernel
theorem dL_law_588 : decode cL_law 588 = .ok (.invokevirtual 58, 3) := by decide +kernel
theorem dL_law_591 : decode cL_law 591 = .ok (.aload_n 2, 1) := by decide +kernel
theorem dL_law_592 : decode cL_law 592 = .ok (.aload_n 0, 1) := by decide +kernel
theorem dL_law_593 : decode cL_law 593 = .ok (.iload_n 3, 1) := by decide +kernel
theorem dL_law_594 : decode cL_law 594 = .ok (.iconst 1, 1) := by decide +kernel
theorem dL_law_595 : decode cL_law 595 = .ok (.iadd, 1) := by decide +kernel
theorem dL_law_596 : decode cL_law 596 = .ok (.iaload, 1) := by decide +kernel
theorem dL_law_597 : decode cL_law 597 = .ok (.aload_n 0, 1) := by decide +kernel
theorem dL_law_598 : decode cL_law 598 = .ok (.iload_n 3, 1) := by decide +kernel
theorem dL_law_599 : decode cL_law 599 = .ok (.iconst 2, 1) := by decide +kernel
theorem dL_law_600 : decode cL_law 600 = .ok (.iadd, 1) := by decide +kernel
theorem dL_law_601 : decode cL_law 601 = .ok (.iaload, 1) := by decide +kernel
theorem dL_law_602 : decode cL_law 602 = .ok (.aload_n 0, 1) := by decide +kernel
theorem dL_law_603 : decode cL_law 603 = .ok (.iload_n 3, 1) := by decide +kernel
theorem dL_law_604 : decode cL_law 604 = .ok (.iconst 3, 1) := by decide +kernel
theorem dL_law_605 : decode cL_law 605 = .ok (.iadd, 1) := by decide +kernel
theorem dL_law_606 : decode cL_law 606 = .ok (.iaload, 1) := by decide +kernel
theorem dL_law_607 : decode cL_law 607 = .ok (.invokevirtual 61, 3) := by decide +kernel
theorem dL_law_610 : decode cL_law 610 = .ok (.if_icmp .eq 683, 3) := by decide +kernel
theorem dL_law_613 : decode cL_law 613 = .ok (.iconst 0, 1) := by decide +kernel
theorem dL_law_614 : decode cL_law 614 = .ok (.ireturn, 1) := by decide +kernel
theorem dL_law_615 : decode cL_law 615 = .ok (.aload_n 1, 1) := by decide +kernel
theorem dL_law_616 : decode cL_law 616 = .ok (.aload_n 0, 1) := by decide +kernel
theorem dL_law_617 : decode cL_law 617 = .ok (.iload_n 3, 1) := by decide +kernel
theorem dL_law_618 : decode cL_law 618 = .ok (.iconst 1, 1) := by decide +kernel
theorem dL_law_619 : decode cL_law 619 = .ok (.iadd, 1) := by decide +kernel
theorem dL_law_620 : decode cL_law 620 = .ok (.iaload, 1) := by decide +kernel
theorem dL_law_621 : decode cL_law 621 = .ok (.aload_n 0, 1) := by decide +kernel
theorem dL_law_622 : decode cL_law 622 = .ok (.iload_n 3, 1) := by decide +kernel
theorem dL_law_623 : decode cL_law 623 = .ok (.iconst 2, 1) := by decide +kernel
theorem dL_law_624 : decode cL_law 624 = .ok (.iadd, 1) := by decide +kernel
theorem dL_law_625 : decode cL_law 625 = .ok (.iaload, 1) := by decide +kernel
theorem dL_law_626 : decode cL_law 626 = .ok (.aload_n 0, 1) := by decide +kernel
theorem dL_law_627 : decode cL_law 627 = .ok (.iload_n 3, 1) := by decide +kernel
theorem dL_law_628 : decode cL_law 628 = .ok (.iconst 3, 1) := by decide +kernel
theorem dL_law_629 : decode cL_law 629 = .ok (.iadd, 1) := by decide +kernel
theorem dL_law_630 : decode cL_law 630 = .ok (.iaload, 1) := by decide +kernel
theorem dL_law_631 : decode cL_law 631 = .ok (.invokevirtual 62, 3) := by decide +kernel
theorem dL_law_634 : decode cL_law 634 = .ok (.aload_n 2, 1) := by decide +kernel
theorem dL_law_635 : decode cL_law 635 = .ok (.aload_n 0, 1) := by decide +kernel
theorem dL_law_636 : decode cL_law 636 = .ok (.iload_n 3, 1) := by decide +kernel
theorem dL_law_637 : decode cL_law 637 = .ok (.iconst 1, 1) := by decide +kernel
theorem dL_law_638 : decode cL_law 638 = .ok (.iadd, 1) := by decide +kernel
theorem dL_law_639 : decode cL_law 639 = .ok (.iaload, 1) := by decide +kernel
theorem dL_law_640 : decode cL_law 640 = .ok (.aload_n 0, 1) := by decide +kernel
theorem dL_law_641 : decode cL_law 641 = .ok (.iload_n 3, 1) := by decide +kernel
theorem dL_law_642 : decode cL_law 642 = .ok (.iconst 2, 1) := by decide +kernel
theorem dL_law_643 : decode cL_law 643 = .ok (.iadd, 1) := by decide +kernel
theorem dL_law_644 : decode cL_law 644 = .ok (.iaload, 1) := by decide +kernel
theorem dL_law_645 : decode cL_law 645 = .ok (.aload_n 0, 1) := by decide +kernel
theorem dL_law_646 : decode cL_law 646 = .ok (.iload_n 3, 1) := by decide +kernel
theorem dL_law_647 : decode cL_law 647 = .ok (.iconst 3, 1) := by decide +kernel
theorem dL_law_648 : decode cL_law 648 = .ok (.iadd, 1) := by decide +kernel
theorem dL_law_649 : decode cL_law 649 = .ok (.iaload, 1) := by decide +kernel
theorem dL_law_650 : decode cL_law 650 = .ok (.invokevirtual 65, 3) := by decide +kernel
theorem dL_law_653 : decode cL_law 653 = .ok (.if_icmp .eq 640, 3) := by decide +kernel
theorem dL_law_656 : decode cL_law 656 = .ok (.iconst 0, 1) := by decide +kernel
theorem dL_law_657 : decode cL_law 657 = .ok (.ireturn, 1) := by decide +kernel
theorem dL_law_658 : decode cL_law 658 = .ok (.aload_n 1, 1) := by decide +kernel
theorem dL_law_659 : decode cL_law 659 = .ok (.aload_n 0, 1) := by decide +kernel
theorem dL_law_660 : decode cL_law 660 = .ok (.iload_n 3, 1) := by decide +kernel
theorem dL_law_661 : decode cL_law 661 = .ok (.iconst 1, 1) := by decide +kernel
theorem dL_law_662 : decode cL_law 662 = .ok (.iadd, 1) := by decide +kernel
theorem dL_law_663 : decode cL_law 663 = .ok (.iaload, 1) := by decide +kernel
theorem dL_law_664 : decode cL_law 664 = .ok (.aload_n 0, 1) := by decide +kernel
theorem dL_law_665 : decode cL_law 665 = .ok (.iload_n 3, 1) := by decide +kernel
theorem dL_law_666 : decode cL_law 666 = .ok (.iconst 2, 1) := by decide +kernel
theorem dL_law_667 : decode cL_law 667 = .ok (.iadd, 1) := by decide +kernel
theorem dL_law_668 : decode cL_law 668 = .ok (.iaload, 1) := by decide +kernel
theorem dL_law_669 : decode cL_law 669 = .ok (.ifCond .eq 7, 3) := by decide +kernel
theorem dL_law_672 : decode cL_law 672 = .ok (.iconst 1, 1) := by decide +kernel
theorem dL_law_673 : decode cL_law 673 = .ok (.goto 4, 3) := by decide +kernel
theorem dL_law_676 : decode cL_law 676 = .ok (.iconst 0, 1) := by decide +kernel
theorem dL_law_677 : decode cL_law 677 = .ok (.invokevirtual 66, 3) := by decide +kernel
theorem dL_law_680 : decode cL_law 680 = .ok (.aload_n 2, 1) := by decide +kernel
theorem dL_law_681 : decode cL_law 681 = .ok (.aload_n 0, 1) := by decide +kernel
theorem dL_law_682 : decode cL_law 682 = .ok (.iload_n 3, 1) := by decide +kernel
theorem dL_law_683 : decode cL_law 683 = .ok (.iconst 1, 1) := by decide +kernel
theorem dL_law_684 : decode cL_law 684 = .ok (.iadd, 1) := by decide +kernel
theorem dL_law_685 : decode cL_law 685 = .ok (.iaload, 1) := by decide +kernel
theorem dL_law_686 : decode cL_law 686 = .ok (.aload_n 0, 1) := by decide +kernel
theorem dL_law_687 : decode cL_law 687 = .ok (.iload_n 3, 1) := by decide +kernel
theorem dL_law_688 : decode cL_law 688 = .ok (.iconst 2, 1) := by decide +kernel
theorem dL_law_689 : decode cL_law 689 = .ok (.iadd, 1) := by decide +kernel
theorem dL_law_690 : decode cL_law 690 = .ok (.iaload, 1) := by decide +kernel
theorem dL_law_691 : decode cL_law 691 = .ok (.ifCond .eq 7, 3) := by decide +kernel
theorem dL_law_694 : decode cL_law 694 = .ok (.iconst 1, 1) := by decide +kernel
theorem dL_law_695 : decode cL_law 695 = .ok (.goto 4, 3) := by decide +kernel
theorem dL_law_698 : decode cL_law 698 = .ok (.iconst 0, 1) := by decide +kernel
theorem dL_law_699 : decode cL_law 699 = .ok (.invokevirtual 69, 3) := by decide +kernel
theorem dL_law_702 : decode cL_law 702 = .ok (.if_icmp .eq 591, 3) := by decide +kernel
theorem dL_law_705 : decode cL_law 705 = .ok (.iconst 0, 1) := by decide +kernel
theorem dL_law_706 : decode cL_law 706 = .ok (.ireturn, 1) := by decide +kernel
theorem dL_law_707 : decode cL_law 707 = .ok (.aload_n 1, 1) := by decide +kernel
theorem dL_law_708 : decode cL_law 708 = .ok (.aload_n 0, 1) := by decide +kernel
theorem dL_law_709 : decode cL_law 709 = .ok (.iload_n 3, 1) := by decide +kernel
theorem dL_law_710 : decode cL_law 710 = .ok (.iconst 1, 1) := by decide +kernel
theorem dL_law_711 : decode cL_law 711 = .ok (.iadd, 1) := by decide +kernel
theorem dL_law_712 : decode cL_law 712 = .ok (.iaload, 1) := by decide +kernel
theorem dL_law_713 : decode cL_law 713 = .ok (.invokevirtual 70, 3) := by decide +kernel
theorem dL_law_716 : decode cL_law 716 = .ok (.aload_n 2, 1) := by decide +kernel
theorem dL_law_717 : decode cL_law 717 = .ok (.aload_n 0, 1) := by decide +kernel
theorem dL_law_718 : decode cL_law 718 = .ok (.iload_n 3, 1) := by decide +kernel
theorem dL_law_719 : decode cL_law 719 = .ok (.iconst 1, 1) := by decide +kernel
theorem dL_law_720 : decode cL_law 720 = .ok (.iadd, 1) := by decide +kernel
theorem dL_law_721 : decode cL_law 721 = .ok (.iaload, 1) := by decide +kernel
theorem dL_law_722 : decode cL_law 722 = .ok (.invokevirtual 73, 3) := by decide +kernel
theorem dL_law_725 : decode cL_law 725 = .ok (.if_icmp .eq 568, 3) := by decide +kernel
theorem dL_law_728 : decode cL_law 728 = .ok (.iconst 0, 1) := by decide +kernel
theorem dL_law_729 : decode cL_law 729 = .ok (.ireturn, 1) := by decide +kernel
theorem dL_law_730 : decode cL_law 730 = .ok (.aload_n 1, 1) := by decide +kernel
theorem dL_law_731 : decode cL_law 731 = .ok (.aload_n 0, 1) := by decide +kernel
theorem dL_law_732 : decode cL_law 732 = .ok (.iload_n 3, 1) := by decide +kernel
theorem dL_law_733 : decode cL_law 733 = .ok (.iconst 1, 1) := by decide +kernel
theorem dL_law_734 : decode cL_law 734 = .ok (.iadd, 1) := by decide +kernel
theorem dL_law_735 : decode cL_law 735 = .ok (.iaload, 1) := by decide +kernel
theorem dL_law_736 : decode cL_law 736 = .ok (.aload_n 0, 1) := by decide +kernel
theorem dL_law_737 : decode cL_law 737 = .ok (.iload_n 3, 1) := by decide +kernel
theorem dL_law_738 : decode cL_law 738 = .ok (.iconst 2, 1) := by decide +kernel
theorem dL_law_739 : decode cL_law 739 = .ok (.iadd, 1) := by decide +kernel
theorem dL_law_740 : decode cL_law 740 = .ok (.iaload, 1) := by decide +kernel
theorem dL_law_741 : decode cL_law 741 = .ok (.invokevirtual 74, 3) := by decide +kernel
theorem dL_law_744 : decode cL_law 744 = .ok (.aload_n 2, 1) := by decide +kernel
theorem dL_law_745 : decode cL_law 745 = .ok (.aload_n 0, 1) := by decide +kernel
theorem dL_law_746 : decode cL_law 746 = .ok (.iload_n 3, 1) := by decide +kernel
theorem dL_law_747 : decode cL_law 747 = .ok (.iconst 1, 1) := by decide +kernel
theorem dL_law_748 : decode cL_law 748 = .ok (.iadd, 1) := by decide +kernel
theorem dL_law_749 : decode cL_law 749 = .ok (.iaload, 1) := by decide +kernel
theorem dL_law_750 : decode cL_law 750 = .ok (.aload_n 0, 1) := by decide +kernel
theorem dL_law_751 : decode cL_law 751 = .ok (.iload_n 3, 1) := by decide +kernel
theorem dL_law_752 : decode cL_law 752 = .ok (.iconst 2, 1) := by decide +kernel
theorem dL_law_753 : decode cL_law 753 = .ok (.iadd, 1) := by decide +kernel
theorem dL_law_754 : decode cL_law 754 = .ok (.iaload, 1) := by decide +kernel
theorem dL_law_755 : decode cL_law 755 = .ok (.invokevirtual 77, 3) := by decide +kernel
theorem dL_law_758 : decode cL_law 758 = .ok (.if_icmp .eq 535, 3) := by decide +kernel
theorem dL_law_761 : decode cL_law 761 = .ok (.iconst 0, 1) := by decide +kernel
theorem dL_law_762 : decode cL_law 762 = .ok (.ireturn, 1) := by decide +kernel
theorem dL_law_763 : decode cL_law 763 = .ok (.aload_n 1, 1) := by decide +kernel
theorem dL_law_764 : decode cL_law 764 = .ok (.aload_n 0, 1) := by decide +kernel
theorem dL_law_765 : decode cL_law 765 = .ok (.iload_n 3, 1) := by decide +kernel
theorem dL_law_766 : decode cL_law 766 = .ok (.iconst 1, 1) := by decide +kernel
theorem dL_law_767 : decode cL_law 767 = .ok (.iadd, 1) := by decide +kernel
theorem dL_law_768 : decode cL_law 768 = .ok (.iaload, 1) := by decide +kernel
theorem dL_law_769 : decode cL_law 769 = .ok (.invokevirtual 78, 3) := by decide +kernel
theorem dL_law_772 : decode cL_law 772 = .ok (.aload_n 2, 1) := by decide +kernel
theorem dL_law_773 : decode cL_law 773 = .ok (.aload_n 0, 1) := by decide +kernel
theorem dL_law_774 : decode cL_law 774 = .ok (.iload_n 3, 1) := by decide +kernel
theorem dL_law_775 : decode cL_law 775 = .ok (.iconst 1, 1) := by decide +kernel
theorem dL_law_776 : decode cL_law 776 = .ok (.iadd, 1) := by decide +kernel
theorem dL_law_777 : decode cL_law 777 = .ok (.iaload, 1) := by decide +kernel
theorem dL_law_778 : decode cL_law 778 = .ok (.invokevirtual 81, 3) := by decide +kernel
theorem dL_law_781 : decode cL_law 781 = .ok (.if_icmp .eq 512, 3) := by decide +kernel
theorem dL_law_784 : decode cL_law 784 = .ok (.iconst 0, 1) := by decide +kernel
theorem dL_law_785 : decode cL_law 785 = .ok (.ireturn, 1) := by decide +kernel
theorem dL_law_786 : decode cL_law 786 = .ok (.aload_n 1, 1) := by decide +kernel
theorem dL_law_787 : decode cL_law 787 = .ok (.invokevirtual 82, 3) := by decide +kernel
theorem dL_law_790 : decode cL_law 790 = .ok (.aload_n 2, 1) := by decide +kernel
theorem dL_law_791 : decode cL_law 791 = .ok (.invokevirtual 86, 3) := by decide +kernel
theorem dL_law_794 : decode cL_law 794 = .ok (.if_icmp .eq 499, 3) := by decide +kernel
theorem dL_law_797 : decode cL_law 797 = .ok (.iconst 0, 1) := by decide +kernel
theorem dL_law_798 : decode cL_law 798 = .ok (.ireturn, 1) := by decide +kernel
theorem dL_law_799 : decode cL_law 799 = .ok (.aload_n 1, 1) := by decide +kernel
theorem dL_law_800 : decode cL_law 800 = .ok (.invokevirtual 87, 3) := by decide +kernel
theorem dL_law_803 : decode cL_law 803 = .ok (.aload_n 2, 1) := by decide +kernel
theorem dL_law_804 : decode cL_law 804 = .ok (.invokevirtual 90, 3) := by decide +kernel
theorem dL_law_807 : decode cL_law 807 = .ok (.if_icmp .eq 486, 3) := by decide +kernel
theorem dL_law_810 : decode cL_law 810 = .ok (.iconst 0, 1) := by decide +kernel
theorem dL_law_811 : decode cL_law 811 = .ok (.ireturn, 1) := by decide +kernel
theorem dL_law_812 : decode cL_law 812 = .ok (.aload_n 1, 1) := by decide +kernel
theorem dL_law_813 : decode cL_law 813 = .ok (.aload_n 0, 1) := by decide +kernel
theorem dL_law_814 : decode cL_law 814 = .ok (.iload_n 3, 1) := by decide +kernel
theorem dL_law_815 : decode cL_law 815 = .ok (.iconst 1, 1) := by decide +kernel
theorem dL_law_816 : decode cL_law 816 = .ok (.iadd, 1) := by decide +kernel
theorem dL_law_817 : decode cL_law 817 = .ok (.iaload, 1) := by decide +kernel
theorem dL_law_818 : decode cL_law 818 = .ok (.aload_n 0, 1) := by decide +kernel
theorem dL_law_819 : decode cL_law 819 = .ok (.iload_n 3, 1) := by decide +kernel
theorem dL_law_820 : decode cL_law 820 = .ok (.iconst 2, 1) := by decide +kernel
theorem dL_law_821 : decode cL_law 821 = .ok (.iadd, 1) := by decide +kernel
theorem dL_law_822 : decode cL_law 822 = .ok (.iaload, 1) := by decide +kernel
theorem dL_law_823 : decode cL_law 823 = .ok (.aload_n 0, 1) := by decide +kernel
theorem dL_law_824 : decode cL_law 824 = .ok (.iload_n 3, 1) := by decide +kernel
theorem dL_law_825 : decode cL_law 825 = .ok (.iconst 3, 1) := by decide +kernel
theorem dL_law_826 : decode cL_law 826 = .ok (.iadd, 1) := by decide +kernel
theorem dL_law_827 : decode cL_law 827 = .ok (.iaload, 1) := by decide +kernel
theorem dL_law_828 : decode cL_law 828 = .ok (.ifCond .eq 7, 3) := by decide +kernel
theorem dL_law_831 : decode cL_law 831 = .ok (.iconst 1, 1) := by decide +kernel
theorem dL_law_832 : decode cL_law 832 = .ok (.goto 4, 3) := by decide +kernel
theorem dL_law_835 : decode cL_law 835 = .ok (.iconst 0, 1) := by decide +kernel
theorem dL_law_836 : decode cL_law 836 = .ok (.invokevirtual 91, 3) := by decide +kernel
theorem dL_law_839 : decode cL_law 839 = .ok (.aload_n 2, 1) := by decide +kernel
theorem dL_law_840 : decode cL_law 840 = .ok (.aload_n 0, 1) := by decide +kernel
theorem dL_law_841 : decode cL_law 841 = .ok (.iload_n 3, 1) := by decide +kernel
theorem dL_law_842 : decode cL_law 842 = .ok (.iconst 1, 1) := by decide +kernel
theorem dL_law_843 : decode cL_law 843 = .ok (.iadd, 1) := by decide +kernel
theorem dL_law_844 : decode cL_law 844 = .ok (.iaload, 1) := by decide +kernel
theorem dL_law_845 : decode cL_law 845 = .ok (.aload_n 0, 1) := by decide +kernel
theorem dL_law_846 : decode cL_law 846 = .ok (.iload_n 3, 1) := by decide +kernel
theorem dL_law_847 : decode cL_law 847 = .ok (.iconst 2, 1) := by decide +kernel
theorem dL_law_848 : decode cL_law 848 = .ok (.iadd, 1) := by decide +kernel
theorem dL_law_849 : decode cL_law 849 = .ok (.iaload, 1) := by decide +kernel
theorem dL_law_850 : decode cL_law 850 = .ok (.aload_n 0, 1) := by decide +kernel
theorem dL_law_851 : decode cL_law 851 = .ok (.iload_n 3, 1) := by decide +kernel
theorem dL_law_852 : decode cL_law 852 = .ok (.iconst 3, 1) := by decide +kernel
theorem dL_law_853 : decode cL_law 853 = .ok (.iadd, 1) := by decide +kernel
theorem dL_law_854 : decode cL_law 854 = .ok (.iaload, 1) := by decide +kernel
theorem dL_law_855 : decode cL_law 855 = .ok (.ifCond .eq 7, 3) := by decide +kernel
theorem dL_law_858 : decode cL_law 858 = .ok (.iconst 1, 1) := by decide +kernel
theorem dL_law_859 : decode cL_law 859 = .ok (.goto 4, 3) := by decide +kernel
theorem dL_law_862 : decode cL_law 862 = .ok (.iconst 0, 1) := by decide +kernel
theorem dL_law_863 : decode cL_law 863 = .ok (.invokevirtual 95, 3) := by decide +kernel
theorem dL_law_866 : decode cL_law 866 = .ok (.if_icmp .eq 427, 3) := by decide +kernel
theorem dL_law_869 : decode cL_law 869 = .ok (.iconst 0, 1) := by decide +kernel
theorem dL_law_870 : decode cL_law 870 = .ok (.ireturn, 1) := by decide +kernel
theorem dL_law_871 : decode cL_law 871 = .ok (.aload_n 1, 1) := by decide +kernel
theorem dL_law_872 : decode cL_law 872 = .ok (.aload_n 0, 1) := by decide +kernel
theorem dL_law_873 : decode cL_law 873 = .ok (.iload_n 3, 1) := by decide +kernel
theorem dL_law_874 : decode cL_law 874 = .ok (.iconst 1, 1) := by decide +kernel
theorem dL_law_875 : decode cL_law 875 = .ok (.iadd, 1) := by decide +kernel
theorem dL_law_876 : decode cL_law 876 = .ok (.iaload, 1) := by decide +kernel
theorem dL_law_877 : decode cL_law 877 = .ok (.invokevirtual 96, 3) := by decide +kernel
theorem dL_law_880 : decode cL_law 880 = .ok (.aload_n 2, 1) := by decide +kernel
theorem dL_law_881 : decode cL_law 881 = .ok (.aload_n 0, 1) := by decide +kernel
theorem dL_law_882 : decode cL_law 882 = .ok (.iload_n 3, 1) := by decide +kernel
theorem dL_law_883 : decode cL_law 883 = .ok (.iconst 1, 1) := by decide +kernel
theorem dL_law_884 : decode cL_law 884 = .ok (.iadd, 1) := by decide +kernel
theorem dL_law_885 : decode cL_law 885 = .ok (.iaload, 1) := by decide +kernel
theorem dL_law_886 : decode cL_law 886 = .ok (.invokevirtual 99, 3) := by decide +kernel
theorem dL_law_889 : decode cL_law 889 = .ok (.if_icmp .eq 404, 3) := by decide +kernel
theorem dL_law_892 : decode cL_law 892 = .ok (.iconst 0, 1) := by decide +kernel
theorem dL_law_893 : decode cL_law 893 = .ok (.ireturn, 1) := by decide +kernel
theorem dL_law_894 : decode cL_law 894 = .ok (.aload_n 1, 1) := by decide +kernel
theorem dL_law_895 : decode cL_law 895 = .ok (.invokevirtual 100, 3) := by decide +kernel
theorem dL_law_898 : decode cL_law 898 = .ok (.aload_n 2, 1) := by decide +kernel
theorem dL_law_899 : decode cL_law 899 = .ok (.invokevirtual 103, 3) := by decide +kernel
theorem dL_law_902 : decode cL_law 902 = .ok (.if_icmp .eq 391, 3) := by decide +kernel
theorem dL_law_905 : decode cL_law 905 = .ok (.iconst 0, 1) := by decide +kernel
theorem dL_law_906 : decode cL_law 906 = .ok (.ireturn, 1) := by decide +kernel
theorem dL_law_907 : decode cL_law 907 = .ok (.aload_n 1, 1) := by decide +kernel
theorem dL_law_908 : decode cL_law 908 = .ok (.aload_n 0, 1) := by decide +kernel
theorem dL_law_909 : decode cL_law 909 = .ok (.iload_n 3, 1) := by decide +kernel
theorem dL_law_910 : decode cL_law 910 = .ok (.iconst 1, 1) := by decide +kernel
theorem dL_law_911 : decode cL_law 911 = .ok (.iadd, 1) := by decide +kernel
theorem dL_law_912 : decode cL_law 912 = .ok (.iaload, 1) := by decide +kernel
theorem dL_law_913 : decode cL_law 913 = .ok (.invokevirtual 104, 3) := by decide +kernel
theorem dL_law_916 : decode cL_law 916 = .ok (.aload_n 2, 1) := by decide +kernel
theorem dL_law_917 : decode cL_law 917 = .ok (.aload_n 0, 1) := by decide +kernel
theorem dL_law_918 : decode cL_law 918 = .ok (.iload_n 3, 1) := by decide +kernel
theorem dL_law_919 : decode cL_law 919 = .ok (.iconst 1, 1) := by decide +kernel
theorem dL_law_920 : decode cL_law 920 = .ok (.iadd, 1) := by decide +kernel
theorem dL_law_921 : decode cL_law 921 = .ok (.iaload, 1) := by decide +kernel
theorem dL_law_922 : decode cL_law 922 = .ok (.invokevirtual 107, 3) := by decide +kernel
theorem dL_law_925 : decode cL_law 925 = .ok (.if_icmp .eq 368, 3) := by decide +kernel
theorem dL_law_928 : decode cL_law 928 = .ok (.iconst 0, 1) := by decide +kernel
theorem dL_law_929 : decode cL_law 929 = .ok (.ireturn, 1) := by decide +kernel
theorem dL_law_930 : decode cL_law 930 = .ok (.aload_n 1, 1) := by decide +kernel
theorem dL_law_931 : decode cL_law 931 = .ok (.invokevirtual 108, 3) := by decide +kernel
theorem dL_law_934 : decode cL_law 934 = .ok (.aload_n 2, 1) := by decide +kernel
theorem dL_law_935 : decode cL_law 935 = .ok (.invokevirtual 111, 3) := by decide +kernel
theorem dL_law_938 : decode cL_law 938 = .ok (.if_icmp .eq 355, 3) := by decide +kernel
theorem dL_law_941 : decode cL_law 941 = .ok (.iconst 0, 1) := by decide +kernel
theorem dL_law_942 : decode cL_law 942 = .ok (.ireturn, 1) := by decide +kernel
theorem dL_law_943 : decode cL_law 943 = .ok (.aload_n 1, 1) := by decide +kernel
theorem dL_law_944 : decode cL_law 944 = .ok (.invokevirtual 112, 3) := by decide +kernel
theorem dL_law_947 : decode cL_law 947 = .ok (.aload_n 2, 1) := by decide +kernel
theorem dL_law_948 : decode cL_law 948 = .ok (.invokevirtual 115, 3) := by decide +kernel
theorem dL_law_951 : decode cL_law 951 = .ok (.if_icmp .eq 342, 3) := by decide +kernel
theorem dL_law_954 : decode cL_law 954 = .ok (.iconst 0, 1) := by decide +kernel
theorem dL_law_955 : decode cL_law 955 = .ok (.ireturn, 1) := by decide +kernel
theorem dL_law_956 : decode cL_law 956 = .ok (.aload_n 1, 1) := by decide +kernel
theorem dL_law_957 : decode cL_law 957 = .ok (.aload_n 0, 1) := by decide +kernel
theorem dL_law_958 : decode cL_law 958 = .ok (.iload_n 3, 1) := by decide +kernel
theorem dL_law_959 : decode cL_law 959 = .ok (.iconst 1, 1) := by decide +kernel
theorem dL_law_960 : decode cL_law 960 = .ok (.iadd, 1) := by decide +kernel
theorem dL_law_961 : decode cL_law 961 = .ok (.iaload, 1) := by decide +kernel
theorem dL_law_962 : decode cL_law 962 = .ok (.aload_n 0, 1) := by decide +kernel
theorem dL_law_963 : decode cL_law 963 = .ok (.iload_n 3, 1) := by decide +kernel
theorem dL_law_964 : decode cL_law 964 = .ok (.iconst 2, 1) := by decide +kernel
theorem dL_law_965 : decode cL_law 965 = .ok (.iadd, 1) := by decide +kernel
theorem dL_law_966 : decode cL_law 966 = .ok (.iaload, 1) := by decide +kernel
theorem dL_law_967 : decode cL_law 967 = .ok (.invokevirtual 116, 3) := by decide +kernel
theorem dL_law_970 : decode cL_law 970 = .ok (.aload_n 2, 1) := by decide +kernel
theorem dL_law_971 : decode cL_law 971 = .ok (.aload_n 0, 1) := by decide +kernel
theorem dL_law_972 : decode cL_law 972 = .ok (.iload_n 3, 1) := by decide +kernel
theorem dL_law_973 : decode cL_law 973 = .ok (.iconst 1, 1) := by decide +kernel
theorem dL_law_974 : decode cL_law 974 = .ok (.iadd, 1) := by decide +kernel
theorem dL_law_975 : decode cL_law 975 = .ok (.iaload, 1) := by decide +kernel
theorem dL_law_976 : decode cL_law 976 = .ok (.aload_n 0, 1) := by decide +kernel
theorem dL_law_977 : decode cL_law 977 = .ok (.iload_n 3, 1) := by decide +kernel
theorem dL_law_978 : decode cL_law 978 = .ok (.iconst 2, 1) := by decide +kernel
theorem dL_law_979 : decode cL_law 979 = .ok (.iadd, 1) := by decide +kernel
theorem dL_law_980 : decode cL_law 980 = .ok (.iaload, 1) := by decide +kernel
theorem dL_law_981 : decode cL_law 981 = .ok (.invokevirtual 119, 3) := by decide +kernel
theorem dL_law_984 : decode cL_law 984 = .ok (.if_icmp .eq 309, 3) := by decide +kernel
theorem dL_law_987 : decode cL_law 987 = .ok (.iconst 0, 1) := by decide +kernel
theorem dL_law_988 : decode cL_law 988 = .ok (.ireturn, 1) := by decide +kernel
theorem dL_law_989 : decode cL_law 989 = .ok (.aload_n 1, 1) := by decide +kernel
theorem dL_law_990 : decode cL_law 990 = .ok (.invokevirtual 120, 3) := by decide +kernel
theorem dL_law_993 : decode cL_law 993 = .ok (.aload_n 2, 1) := by decide +kernel
theorem dL_law_994 : decode cL_law 994 = .ok (.invokevirtual 123, 3) := by decide +kernel
theorem dL_law_997 : decode cL_law 997 = .ok (.if_icmp .eq 296, 3) := by decide +kernel
theorem dL_law_1000 : decode cL_law 1000 = .ok (.iconst 0, 1) := by decide +kernel
theorem dL_law_1001 : decode cL_law 1001 = .ok (.ireturn, 1) := by decide +kernel
theorem dL_law_1002 : decode cL_law 1002 = .ok (.aload_n 1, 1) := by decide +kernel
theorem dL_law_1003 : decode cL_law 1003 = .ok (.aload_n 0, 1) := by decide +kernel
theorem dL_law_1004 : decode cL_law 1004 = .ok (.iload_n 3, 1) := by decide +kernel
theorem dL_law_1005 : decode cL_law 1005 = .ok (.iconst 1, 1) := by decide +kernel
theorem dL_law_1006 : decode cL_law 1006 = .ok (.iadd, 1) := by decide +kernel
theorem dL_law_1007 : decode cL_law 1007 = .ok (.iaload, 1) := by decide +kernel
theorem dL_law_1008 : decode cL_law 1008 = .ok (.aload_n 0, 1) := by decide +kernel
theorem dL_law_1009 : decode cL_law 1009 = .ok (.iload_n 3, 1) := by decide +kernel
theorem dL_law_1010 : decode cL_law 1010 = .ok (.iconst 2, 1) := by decide +kernel
theorem dL_law_1011 : decode cL_law 1011 = .ok (.iadd, 1) := by decide +kernel
theorem dL_law_1012 : decode cL_law 1012 = .ok (.iaload, 1) := by decide +kernel
theorem dL_law_1013 : decode cL_law 1013 = .ok (.invokevirtual 124, 3) := by decide +kernel
theorem dL_law_1016 : decode cL_law 1016 = .ok (.aload_n 2, 1) := by decide +kernel
theorem dL_law_1017 : decode cL_law 1017 = .ok (.aload_n 0, 1) := by decide +kernel
theorem dL_law_1018 : decode cL_law 1018 = .ok (.iload_n 3, 1) := by decide +kernel
theorem dL_law_1019 : decode cL_law 1019 = .ok (.iconst 1, 1) := by decide +kernel
theorem dL_law_1020 : decode cL_law 1020 = .ok (.iadd, 1) := by decide +kernel
theorem dL_law_1021 : decode cL_law 1021 = .ok (.iaload, 1) := by decide +kernel
theorem dL_law_1022 : decode cL_law 1022 = .ok (.aload_n 0, 1) := by decide +kernel
theorem dL_law_1023 : decode cL_law 1023 = .ok (.iload_n 3, 1) := by decide +kernel
theorem dL_law_1024 : decode cL_law 1024 = .ok (.iconst 2, 1) := by decide +kernel
theorem dL_law_1025 : decode cL_law 1025 = .ok (.iadd, 1) := by decide +kernel
theorem dL_law_1026 : decode cL_law 1026 = .ok (.iaload, 1) := by decide +kernel
theorem dL_law_1027 : decode cL_law 1027 = .ok (.invokevirtual 127, 3) := by decide +kernel
theorem dL_law_1030 : decode cL_law 1030 = .ok (.if_icmp .eq 263, 3) := by decide +kernel
theorem dL_law_1033 : decode cL_law 1033 = .ok (.iconst 0, 1) := by decide +kernel
theorem dL_law_1034 : decode cL_law 1034 = .ok (.ireturn, 1) := by decide +kernel
theorem dL_law_1035 : decode cL_law 1035 = .ok (.aload_n 1, 1) := by decide +kernel
theorem dL_law_1036 : decode cL_law 1036 = .ok (.aload_n 0, 1) := by decide +kernel
theorem dL_law_1037 : decode cL_law 1037 = .ok (.iload_n 3, 1) := by decide +kernel
theorem dL_law_1038 : decode cL_law 1038 = .ok (.iconst 1, 1) := by decide +kernel
theorem dL_law_1039 : decode cL_law 1039 = .ok (.iadd, 1) := by decide +kernel
theorem dL_law_1040 : decode cL_law 1040 = .ok (.iaload, 1) := by decide +kernel
theorem dL_law_1041 : decode cL_law 1041 = .ok (.invokevirtual 128, 3) := by decide +kernel
theorem dL_law_1044 : decode cL_law 1044 = .ok (.aload_n 2, 1) := by decide +kernel
theorem dL_law_1045 : decode cL_law 1045 = .ok (.aload_n 0, 1) := by decide +kernel
theorem dL_law_1046 : decode cL_law 1046 = .ok (.iload_n 3, 1) := by decide +kernel
theorem dL_law_1047 : decode cL_law 1047 = .ok (.iconst 1, 1) := by decide +kernel
theorem dL_law_1048 : decode cL_law 1048 = .ok (.iadd, 1) := by decide +kernel
theorem dL_law_1049 : decode cL_law 1049 = .ok (.iaload, 1) := by decide +kernel
theorem dL_law_1050 : decode cL_law 1050 = .ok (.invokevirtual 131, 3) := by decide +kernel
theorem dL_law_1053 : decode cL_law 1053 = .ok (.if_icmp .eq 240, 3) := by decide +kernel
theorem dL_law_1056 : decode cL_law 1056 = .ok (.iconst 0, 1) := by decide +kernel
theorem dL_law_1057 : decode cL_law 1057 = .ok (.ireturn, 1) := by decide +kernel
theorem dL_law_1058 : decode cL_law 1058 = .ok (.aload_n 1, 1) := by decide +kernel
theorem dL_law_1059 : decode cL_law 1059 = .ok (.invokevirtual 132, 3) := by decide +kernel
theorem dL_law_1062 : decode cL_law 1062 = .ok (.aload_n 2, 1) := by decide +kernel
theorem dL_law_1063 : decode cL_law 1063 = .ok (.invokevirtual 136, 3) := by decide +kernel
theorem dL_law_1066 : decode cL_law 1066 = .ok (.lcmp, 1) := by decide +kernel
theorem dL_law_1067 : decode cL_law 1067 = .ok (.ifCond .eq 226, 3) := by decide +kernel
theorem dL_law_1070 : decode cL_law 1070 = .ok (.iconst 0, 1) := by decide +kernel
theorem dL_law_1071 : decode cL_law 1071 = .ok (.ireturn, 1) := by decide +kernel
theorem dL_law_1072 : decode cL_law 1072 = .ok (.aload_n 1, 1) := by decide +kernel
theorem dL_law_1073 : decode cL_law 1073 = .ok (.aload_n 0, 1) := by decide +kernel
theorem dL_law_1074 : decode cL_law 1074 = .ok (.iload_n 3, 1) := by decide +kernel
theorem dL_law_1075 : decode cL_law 1075 = .ok (.iconst 1, 1) := by decide +kernel
theorem dL_law_1076 : decode cL_law 1076 = .ok (.iadd, 1) := by decide +kernel
theorem dL_law_1077 : decode cL_law 1077 = .ok (.iaload, 1) := by decide +kernel
theorem dL_law_1078 : decode cL_law 1078 = .ok (.invokevirtual 137, 3) := by decide +kernel
theorem dL_law_1081 : decode cL_law 1081 = .ok (.aload_n 2, 1) := by decide +kernel
theorem dL_law_1082 : decode cL_law 1082 = .ok (.aload_n 0, 1) := by decide +kernel
theorem dL_law_1083 : decode cL_law 1083 = .ok (.iload_n 3, 1) := by decide +kernel
theorem dL_law_1084 : decode cL_law 1084 = .ok (.iconst 1, 1) := by decide +kernel
