theorem dX0_init_0 : decode cX0_init 0 = .ok (.aload_n 0, 1) := by decide +kernel
theorem dX0_init_1 : decode cX0_init 1 = .ok (.invokespecial 3, 3) := by decide +kernel
theorem dX0_init_4 : decode cX0_init 4 = .ok (.aload_n 0, 1) := by decide +kernel
theorem dX0_init_5 : decode cX0_init 5 = .ok (.bipush 12, 2) := by decide +kernel
theorem dX0_init_7 : decode cX0_init 7 = .ok (.newarray .int, 2) := by decide +kernel
theorem dX0_init_9 : decode cX0_init 9 = .ok (.putfield 9, 3) := by decide +kernel
theorem dX0_init_12 : decode cX0_init 12 = .ok (.aload_n 0, 1) := by decide +kernel
theorem dX0_init_13 : decode cX0_init 13 = .ok (.bipush 12, 2) := by decide +kernel
theorem dX0_init_15 : decode cX0_init 15 = .ok (.newarray .int, 2) := by decide +kernel
theorem dX0_init_17 : decode cX0_init 17 = .ok (.putfield 15, 3) := by decide +kernel
theorem dX0_init_20 : decode cX0_init 20 = .ok (.aload_n 0, 1) := by decide +kernel
theorem dX0_init_21 : decode cX0_init 21 = .ok (.bipush 66, 2) := by decide +kernel
theorem dX0_init_23 : decode cX0_init 23 = .ok (.newarray .int, 2) := by decide +kernel
theorem dX0_init_25 : decode cX0_init 25 = .ok (.putfield 18, 3) := by decide +kernel
theorem dX0_init_28 : decode cX0_init 28 = .ok (.aload_n 0, 1) := by decide +kernel
theorem dX0_init_29 : decode cX0_init 29 = .ok (.bipush 66, 2) := by decide +kernel
theorem dX0_init_31 : decode cX0_init 31 = .ok (.newarray .boolean, 2) := by decide +kernel
theorem dX0_init_33 : decode cX0_init 33 = .ok (.putfield 21, 3) := by decide +kernel
theorem dX0_init_36 : decode cX0_init 36 = .ok (.aload_n 0, 1) := by decide +kernel
theorem dX0_init_37 : decode cX0_init 37 = .ok (.iconst 0, 1) := by decide +kernel
theorem dX0_init_38 : decode cX0_init 38 = .ok (.putfield 25, 3) := by decide +kernel
theorem dX0_init_41 : decode cX0_init 41 = .ok (.aload_n 0, 1) := by decide +kernel
theorem dX0_init_42 : decode cX0_init 42 = .ok (.iconst 0, 1) := by decide +kernel
theorem dX0_init_43 : decode cX0_init 43 = .ok (.putfield 29, 3) := by decide +kernel
theorem dX0_init_46 : decode cX0_init 46 = .ok (.return_, 1) := by decide +kernel
set_option maxRecDepth 20000 in
theorem ggX0_startEmpty_J7_fill_53178 : GoodIn wsX0_startEmpty wsJ7_fill_53178 := goodIn_r _ [8] (by decide +kernel) (by decide +kernel)
set_option maxRecDepth 20000 in
theorem gX0_startEmpty_J7_fill_53178 : GoodIn wsX0_startEmpty (va_wsS RX0 33 yJ7_fill_53178 wsJ7_fill_53178) := goodIn_app (goodIn_of _ (by decide +kernel)) ggX0_startEmpty_J7_fill_53178
theorem dX0_startEmpty_0 : decode cX0_startEmpty 0 = .ok (.aload_n 0, 1) := by decide +kernel
theorem dX0_startEmpty_1 : decode cX0_startEmpty 1 = .ok (.getfield 9, 3) := by decide +kernel
theorem dX0_startEmpty_4 : decode cX0_startEmpty 4 = .ok (.iconst 0, 1) := by decide +kernel
theorem dX0_startEmpty_5 : decode cX0_startEmpty 5 = .ok (.invokestatic 33, 3) := by decide +kernel
theorem dX0_startEmpty_8 : decode cX0_startEmpty 8 = .ok (.aload_n 0, 1) := by decide +kernel
theorem dX0_startEmpty_9 : decode cX0_startEmpty 9 = .ok (.getfield 15, 3) := by decide +kernel
theorem dX0_startEmpty_12 : decode cX0_startEmpty 12 = .ok (.iconst 0, 1) := by decide +kernel
theorem dX0_startEmpty_13 : decode cX0_startEmpty 13 = .ok (.invokestatic 33, 3) := by decide +kernel
theorem dX0_startEmpty_16 : decode cX0_startEmpty 16 = .ok (.aload_n 0, 1) := by decide +kernel
theorem dX0_startEmpty_17 : decode cX0_startEmpty 17 = .ok (.iconst 0, 1) := by decide +kernel
theorem dX0_startEmpty_18 : decode cX0_startEmpty 18 = .ok (.putfield 25, 3) := by decide +kernel
theorem dX0_startEmpty_21 : decode cX0_startEmpty 21 = .ok (.aload_n 0, 1) := by decide +kernel
theorem dX0_startEmpty_22 : decode cX0_startEmpty 22 = .ok (.iconst 0, 1) := by decide +kernel
theorem dX0_startEmpty_23 : decode cX0_startEmpty 23 = .ok (.putfield 29, 3) := by decide +kernel
theorem dX0_startEmpty_26 : decode cX0_startEmpty 26 = .ok (.return_, 1) := by decide +kernel
set_option maxRecDepth 20000 in
theorem ggX0_isJoined_X9_isIn : GoodIn wsX0_isJoined wsX9_isIn := goodIn_r _ [4] (by decide +kernel) (by decide +kernel)
set_option maxRecDepth 20000 in
theorem gX0_isJoined_X9_isIn_n39 : GoodIn wsX0_isJoined (wsX9_isIn) := ggX0_isJoined_X9_isIn
theorem dX0_isJoined_0 : decode cX0_isJoined 0 = .ok (.aload_n 0, 1) := by decide +kernel
theorem dX0_isJoined_1 : decode cX0_isJoined 1 = .ok (.getfield 9, 3) := by decide +kernel
theorem dX0_isJoined_4 : decode cX0_isJoined 4 = .ok (.iload_n 1, 1) := by decide +kernel
theorem dX0_isJoined_5 : decode cX0_isJoined 5 = .ok (.iaload, 1) := by decide +kernel
theorem dX0_isJoined_6 : decode cX0_isJoined 6 = .ok (.iload_n 2, 1) := by decide +kernel
theorem dX0_isJoined_7 : decode cX0_isJoined 7 = .ok (.invokestatic 39, 3) := by decide +kernel
theorem dX0_isJoined_10 : decode cX0_isJoined 10 = .ok (.ireturn, 1) := by decide +kernel
set_option maxRecDepth 20000 in
theorem ggX0_isParted_X9_isIn : GoodIn wsX0_isParted wsX9_isIn := goodIn_r _ [4] (by decide +kernel) (by decide +kernel)
set_option maxRecDepth 20000 in
theorem gX0_isParted_X9_isIn_n39 : GoodIn wsX0_isParted (wsX9_isIn) := ggX0_isParted_X9_isIn
theorem dX0_isParted_0 : decode cX0_isParted 0 = .ok (.aload_n 0, 1) := by decide +kernel
theorem dX0_isParted_1 : decode cX0_isParted 1 = .ok (.getfield 15, 3) := by decide +kernel
theorem dX0_isParted_4 : decode cX0_isParted 4 = .ok (.iload_n 1, 1) := by decide +kernel
theorem dX0_isParted_5 : decode cX0_isParted 5 = .ok (.iaload, 1) := by decide +kernel
theorem dX0_isParted_6 : decode cX0_isParted 6 = .ok (.iload_n 2, 1) := by decide +kernel
theorem dX0_isParted_7 : decode cX0_isParted 7 = .ok (.invokestatic 39, 3) := by decide +kernel
theorem dX0_isParted_10 : decode cX0_isParted 10 = .ok (.ireturn, 1) := by decide +kernel
set_option maxRecDepth 20000 in
theorem ggX0_isFree_X9_isIn : GoodIn wsX0_isFree wsX9_isIn := goodIn_r _ [5] (by decide +kernel) (by decide +kernel)
set_option maxRecDepth 20000 in
theorem gX0_isFree_X9_isIn_n39 : GoodIn wsX0_isFree (wsX9_isIn) := ggX0_isFree_X9_isIn
theorem dX0_isFree_0 : decode cX0_isFree 0 = .ok (.aload_n 0, 1) := by decide +kernel
theorem dX0_isFree_1 : decode cX0_isFree 1 = .ok (.getfield 9, 3) := by decide +kernel
theorem dX0_isFree_4 : decode cX0_isFree 4 = .ok (.iload_n 1, 1) := by decide +kernel
theorem dX0_isFree_5 : decode cX0_isFree 5 = .ok (.iaload, 1) := by decide +kernel
theorem dX0_isFree_6 : decode cX0_isFree 6 = .ok (.aload_n 0, 1) := by decide +kernel
theorem dX0_isFree_7 : decode cX0_isFree 7 = .ok (.getfield 15, 3) := by decide +kernel
theorem dX0_isFree_10 : decode cX0_isFree 10 = .ok (.iload_n 1, 1) := by decide +kernel
theorem dX0_isFree_11 : decode cX0_isFree 11 = .ok (.iaload, 1) := by decide +kernel
theorem dX0_isFree_12 : decode cX0_isFree 12 = .ok (.ior, 1) := by decide +kernel
theorem dX0_isFree_13 : decode cX0_isFree 13 = .ok (.iload_n 2, 1) := by decide +kernel
theorem dX0_isFree_14 : decode cX0_isFree 14 = .ok (.invokestatic 39, 3) := by decide +kernel
theorem dX0_isFree_17 : decode cX0_isFree 17 = .ok (.ifCond .ne 7, 3) := by decide +kernel
theorem dX0_isFree_20 : decode cX0_isFree 20 = .ok (.iconst 1, 1) := by decide +kernel
theorem dX0_isFree_21 : decode cX0_isFree 21 = .ok (.goto 4, 3) := by decide +kernel
theorem dX0_isFree_24 : decode cX0_isFree 24 = .ok (.iconst 0, 1) := by decide +kernel
theorem dX0_isFree_25 : decode cX0_isFree 25 = .ok (.ireturn, 1) := by decide +kernel
set_option maxRecDepth 20000 in
theorem ggX0_splitBy_X9_pairOf : GoodIn wsX0_splitBy wsX9_pairOf := goodIn_r _ [7] (by decide +kernel) (by decide +kernel)
set_option maxRecDepth 20000 in
theorem gX0_splitBy_X9_pairOf_n43 : GoodIn wsX0_splitBy (wsX9_pairOf) := ggX0_splitBy_X9_pairOf
set_option maxRecDepth 20000 in
theorem ggX0_splitBy_X0_toggle : GoodIn wsX0_splitBy wsX0_toggle := goodIn_r _ [12, 13, 6, 14, 15, 16] (by decide +kernel) (by decide +kernel)
set_option maxRecDepth 20000 in
theorem gX0_splitBy_X0_toggle : GoodIn wsX0_splitBy (wsV RX0 47 RX0 yX0_toggle wsX0_toggle) := goodIn_app (goodIn_of _ (by decide +kernel)) ggX0_splitBy_X0_toggle
theorem dX0_splitBy_0 : decode cX0_splitBy 0 = .ok (.aload_n 0, 1) := by decide +kernel
theorem dX0_splitBy_1 : decode cX0_splitBy 1 = .ok (.getfield 25, 3) := by decide +kernel
theorem dX0_splitBy_4 : decode cX0_splitBy 4 = .ok (.bipush 66, 2) := by decide +kernel
theorem dX0_splitBy_6 : decode cX0_splitBy 6 = .ok (.if_icmp .lt 4, 3) := by decide +kernel
theorem dX0_splitBy_9 : decode cX0_splitBy 9 = .ok (.return_, 1) := by decide +kernel
theorem dX0_splitBy_10 : decode cX0_splitBy 10 = .ok (.aload_n 0, 1) := by decide +kernel
theorem dX0_splitBy_11 : decode cX0_splitBy 11 = .ok (.getfield 18, 3) := by decide +kernel
theorem dX0_splitBy_14 : decode cX0_splitBy 14 = .ok (.aload_n 0, 1) := by decide +kernel
theorem dX0_splitBy_15 : decode cX0_splitBy 15 = .ok (.getfield 25, 3) := by decide +kernel
theorem dX0_splitBy_18 : decode cX0_splitBy 18 = .ok (.iload_n 1, 1) := by decide +kernel
theorem dX0_splitBy_19 : decode cX0_splitBy 19 = .ok (.iload_n 2, 1) := by decide +kernel
theorem dX0_splitBy_20 : decode cX0_splitBy 20 = .ok (.invokestatic 43, 3) := by decide +kernel
theorem dX0_splitBy_23 : decode cX0_splitBy 23 = .ok (.iastore, 1) := by decide +kernel
theorem dX0_splitBy_24 : decode cX0_splitBy 24 = .ok (.aload_n 0, 1) := by decide +kernel
theorem dX0_splitBy_25 : decode cX0_splitBy 25 = .ok (.getfield 21, 3) := by decide +kernel
theorem dX0_splitBy_28 : decode cX0_splitBy 28 = .ok (.aload_n 0, 1) := by decide +kernel
theorem dX0_splitBy_29 : decode cX0_splitBy 29 = .ok (.getfield 25, 3) := by decide +kernel
theorem dX0_splitBy_32 : decode cX0_splitBy 32 = .ok (.iconst 0, 1) := by decide +kernel
theorem dX0_splitBy_33 : decode cX0_splitBy 33 = .ok (.bastore, 1) := by decide +kernel
theorem dX0_splitBy_34 : decode cX0_splitBy 34 = .ok (.aload_n 0, 1) := by decide +kernel
theorem dX0_splitBy_35 : decode cX0_splitBy 35 = .ok (.aload_n 0, 1) := by decide +kernel
theorem dX0_splitBy_36 : decode cX0_splitBy 36 = .ok (.getfield 9, 3) := by decide +kernel
theorem dX0_splitBy_39 : decode cX0_splitBy 39 = .ok (.aload_n 0, 1) := by decide +kernel
theorem dX0_splitBy_40 : decode cX0_splitBy 40 = .ok (.getfield 18, 3) := by decide +kernel
theorem dX0_splitBy_43 : decode cX0_splitBy 43 = .ok (.aload_n 0, 1) := by decide +kernel
theorem dX0_splitBy_44 : decode cX0_splitBy 44 = .ok (.getfield 25, 3) := by decide +kernel
theorem dX0_splitBy_47 : decode cX0_splitBy 47 = .ok (.iaload, 1) := by decide +kernel
theorem dX0_splitBy_48 : decode cX0_splitBy 48 = .ok (.invokevirtual 47, 3) := by decide +kernel
theorem dX0_splitBy_51 : decode cX0_splitBy 51 = .ok (.aload_n 0, 1) := by decide +kernel
theorem dX0_splitBy_52 : decode cX0_splitBy 52 = .ok (.dup, 1) := by decide +kernel
theorem dX0_splitBy_53 : decode cX0_splitBy 53 = .ok (.getfield 25, 3) := by decide +kernel
theorem dX0_splitBy_56 : decode cX0_splitBy 56 = .ok (.iconst 1, 1) := by decide +kernel
theorem dX0_splitBy_57 : decode cX0_splitBy 57 = .ok (.iadd, 1) := by decide +kernel
theorem dX0_splitBy_58 : decode cX0_splitBy 58 = .ok (.putfield 25, 3) := by decide +kernel
theorem dX0_splitBy_61 : decode cX0_splitBy 61 = .ok (.return_, 1) := by decide +kernel
set_option maxRecDepth 20000 in
theorem ggX0_goOn_X0_toggle : GoodIn wsX0_goOn wsX0_toggle := goodIn_r _ [11, 12, 13, 14, 15, 16] (by decide +kernel) (by decide +kernel)
set_option maxRecDepth 20000 in
theorem gX0_goOn_X0_toggle : GoodIn wsX0_goOn (wsV RX0 47 RX0 yX0_toggle wsX0_toggle) := goodIn_app (goodIn_of _ (by decide +kernel)) ggX0_goOn_X0_toggle
theorem dX0_goOn_0 : decode cX0_goOn 0 = .ok (.aload_n 0, 1) := by decide +kernel
theorem dX0_goOn_1 : decode cX0_goOn 1 = .ok (.getfield 25, 3) := by decide +kernel
theorem dX0_goOn_4 : decode cX0_goOn 4 = .ok (.ifCond .le 47, 3) := by decide +kernel
theorem dX0_goOn_7 : decode cX0_goOn 7 = .ok (.aload_n 0, 1) := by decide +kernel
theorem dX0_goOn_8 : decode cX0_goOn 8 = .ok (.getfield 21, 3) := by decide +kernel
theorem dX0_goOn_11 : decode cX0_goOn 11 = .ok (.aload_n 0, 1) := by decide +kernel
theorem dX0_goOn_12 : decode cX0_goOn 12 = .ok (.getfield 25, 3) := by decide +kernel
theorem dX0_goOn_15 : decode cX0_goOn 15 = .ok (.iconst 1, 1) := by decide +kernel
theorem dX0_goOn_16 : decode cX0_goOn 16 = .ok (.isub, 1) := by decide +kernel
theorem dX0_goOn_17 : decode cX0_goOn 17 = .ok (.baload, 1) := by decide +kernel
theorem dX0_goOn_18 : decode cX0_goOn 18 = .ok (.ifCond .eq 33, 3) := by decide +kernel
theorem dX0_goOn_21 : decode cX0_goOn 21 = .ok (.aload_n 0, 1) := by decide +kernel
theorem dX0_goOn_22 : decode cX0_goOn 22 = .ok (.dup, 1) := by decide +kernel
theorem dX0_goOn_23 : decode cX0_goOn 23 = .ok (.getfield 25, 3) := by decide +kernel
theorem dX0_goOn_26 : decode cX0_goOn 26 = .ok (.iconst 1, 1) := by decide +kernel
theorem dX0_goOn_27 : decode cX0_goOn 27 = .ok (.isub, 1) := by decide +kernel
theorem dX0_goOn_28 : decode cX0_goOn 28 = .ok (.putfield 25, 3) := by decide +kernel
theorem dX0_goOn_31 : decode cX0_goOn 31 = .ok (.aload_n 0, 1) := by decide +kernel
theorem dX0_goOn_32 : decode cX0_goOn 32 = .ok (.aload_n 0, 1) := by decide +kernel
theorem dX0_goOn_33 : decode cX0_goOn 33 = .ok (.getfield 15, 3) := by decide +kernel
theorem dX0_goOn_36 : decode cX0_goOn 36 = .ok (.aload_n 0, 1) := by decide +kernel
theorem dX0_goOn_37 : decode cX0_goOn 37 = .ok (.getfield 18, 3) := by decide +kernel
theorem dX0_goOn_40 : decode cX0_goOn 40 = .ok (.aload_n 0, 1) := by decide +kernel
theorem dX0_goOn_41 : decode cX0_goOn 41 = .ok (.getfield 25, 3) := by decide +kernel
theorem dX0_goOn_44 : decode cX0_goOn 44 = .ok (.iaload, 1) := by decide +kernel
theorem dX0_goOn_45 : decode cX0_goOn 45 = .ok (.invokevirtual 47, 3) := by decide +kernel
theorem dX0_goOn_48 : decode cX0_goOn 48 = .ok (.goto (-48), 3) := by decide +kernel
theorem dX0_goOn_51 : decode cX0_goOn 51 = .ok (.aload_n 0, 1) := by decide +kernel
theorem dX0_goOn_52 : decode cX0_goOn 52 = .ok (.getfield 25, 3) := by decide +kernel
theorem dX0_goOn_55 : decode cX0_goOn 55 = .ok (.ifCond .ne 9, 3) := by decide +kernel
theorem dX0_goOn_58 : decode cX0_goOn 58 = .ok (.aload_n 0, 1) := by decide +kernel
theorem dX0_goOn_59 : decode cX0_goOn 59 = .ok (.iconst 1, 1) := by decide +kernel
theorem dX0_goOn_60 : decode cX0_goOn 60 = .ok (.putfield 29, 3) := by decide +kernel
theorem dX0_goOn_63 : decode cX0_goOn 63 = .ok (.return_, 1) := by decide +kernel
theorem dX0_goOn_64 : decode cX0_goOn 64 = .ok (.aload_n 0, 1) := by decide +kernel
theorem dX0_goOn_65 : decode cX0_goOn 65 = .ok (.getfield 21, 3) := by decide +kernel
theorem dX0_goOn_68 : decode cX0_goOn 68 = .ok (.aload_n 0, 1) := by decide +kernel
theorem dX0_goOn_69 : decode cX0_goOn 69 = .ok (.getfield 25, 3) := by decide +kernel
theorem dX0_goOn_72 : decode cX0_goOn 72 = .ok (.iconst 1, 1) := by decide +kernel
theorem dX0_goOn_73 : decode cX0_goOn 73 = .ok (.isub, 1) := by decide +kernel
theorem dX0_goOn_74 : decode cX0_goOn 74 = .ok (.iconst 1, 1) := by decide +kernel
theorem dX0_goOn_75 : decode cX0_goOn 75 = .ok (.bastore, 1) := by decide +kernel
theorem dX0_goOn_76 : decode cX0_goOn 76 = .ok (.aload_n 0, 1) := by decide +kernel
theorem dX0_goOn_77 : decode cX0_goOn 77 = .ok (.aload_n 0, 1) := by decide +kernel
theorem dX0_goOn_78 : decode cX0_goOn 78 = .ok (.getfield 9, 3) := by decide +kernel
theorem dX0_goOn_81 : decode cX0_goOn 81 = .ok (.aload_n 0, 1) := by decide +kernel
theorem dX0_goOn_82 : decode cX0_goOn 82 = .ok (.getfield 18, 3) := by decide +kernel
theorem dX0_goOn_85 : decode cX0_goOn 85 = .ok (.aload_n 0, 1) := by decide +kernel
theorem dX0_goOn_86 : decode cX0_goOn 86 = .ok (.getfield 25, 3) := by decide +kernel
theorem dX0_goOn_89 : decode cX0_goOn 89 = .ok (.iconst 1, 1) := by decide +kernel
theorem dX0_goOn_90 : decode cX0_goOn 90 = .ok (.isub, 1) := by decide +kernel
theorem dX0_goOn_91 : decode cX0_goOn 91 = .ok (.iaload, 1) := by decide +kernel
theorem dX0_goOn_92 : decode cX0_goOn 92 = .ok (.invokevirtual 47, 3) := by decide +kernel
theorem dX0_goOn_95 : decode cX0_goOn 95 = .ok (.aload_n 0, 1) := by decide +kernel
theorem dX0_goOn_96 : decode cX0_goOn 96 = .ok (.aload_n 0, 1) := by decide +kernel
theorem dX0_goOn_97 : decode cX0_goOn 97 = .ok (.getfield 15, 3) := by decide +kernel
theorem dX0_goOn_100 : decode cX0_goOn 100 = .ok (.aload_n 0, 1) := by decide +kernel
theorem dX0_goOn_101 : decode cX0_goOn 101 = .ok (.getfield 18, 3) := by decide +kernel
theorem dX0_goOn_104 : decode cX0_goOn 104 = .ok (.aload_n 0, 1) := by decide +kernel
theorem dX0_goOn_105 : decode cX0_goOn 105 = .ok (.getfield 25, 3) := by decide +kernel
theorem dX0_goOn_108 : decode cX0_goOn 108 = .ok (.iconst 1, 1) := by decide +kernel
theorem dX0_goOn_109 : decode cX0_goOn 109 = .ok (.isub, 1) := by decide +kernel
theorem dX0_goOn_110 : decode cX0_goOn 110 = .ok (.iaload, 1) := by decide +kernel
theorem dX0_goOn_111 : decode cX0_goOn 111 = .ok (.invokevirtual 47, 3) := by decide +kernel
theorem dX0_goOn_114 : decode cX0_goOn 114 = .ok (.return_, 1) := by decide +kernel
set_option maxRecDepth 20000 in
theorem ggX0_toggle_X9_lesserOf : GoodIn wsX0_toggle wsX9_lesserOf := goodIn_r _ [3] (by decide +kernel) (by decide +kernel)
set_option maxRecDepth 20000 in
theorem gX0_toggle_X9_lesserOf_n50 : GoodIn wsX0_toggle (wsX9_lesserOf) := ggX0_toggle_X9_lesserOf
set_option maxRecDepth 20000 in
theorem ggX0_toggle_X9_greaterOf : GoodIn wsX0_toggle wsX9_greaterOf := goodIn_r _ [5] (by decide +kernel) (by decide +kernel)
set_option maxRecDepth 20000 in
theorem gX0_toggle_X9_greaterOf_n54 : GoodIn wsX0_toggle (wsX9_greaterOf) := ggX0_toggle_X9_greaterOf
theorem dX0_toggle_0 : decode cX0_toggle 0 = .ok (.iload_n 2, 1) := by decide +kernel
theorem dX0_toggle_1 : decode cX0_toggle 1 = .ok (.invokestatic 50, 3) := by decide +kernel
theorem dX0_toggle_4 : decode cX0_toggle 4 = .ok (.istore_n 3, 1) := by decide +kernel
theorem dX0_toggle_5 : decode cX0_toggle 5 = .ok (.iload_n 2, 1) := by decide +kernel
theorem dX0_toggle_6 : decode cX0_toggle 6 = .ok (.invokestatic 54, 3) := by decide +kernel
theorem dX0_toggle_9 : decode cX0_toggle 9 = .ok (.istore 4, 2) := by decide +kernel
theorem dX0_toggle_11 : decode cX0_toggle 11 = .ok (.aload_n 1, 1) := by decide +kernel
theorem dX0_toggle_12 : decode cX0_toggle 12 = .ok (.iload_n 3, 1) := by decide +kernel
theorem dX0_toggle_13 : decode cX0_toggle 13 = .ok (.dup2, 1) := by decide +kernel
theorem dX0_toggle_14 : decode cX0_toggle 14 = .ok (.iaload, 1) := by decide +kernel
theorem dX0_toggle_15 : decode cX0_toggle 15 = .ok (.iconst 1, 1) := by decide +kernel
theorem dX0_toggle_16 : decode cX0_toggle 16 = .ok (.iload 4, 2) := by decide +kernel
theorem dX0_toggle_18 : decode cX0_toggle 18 = .ok (.ishl, 1) := by decide +kernel
theorem dX0_toggle_19 : decode cX0_toggle 19 = .ok (.ixor, 1) := by decide +kernel
theorem dX0_toggle_20 : decode cX0_toggle 20 = .ok (.iastore, 1) := by decide +kernel
theorem dX0_toggle_21 : decode cX0_toggle 21 = .ok (.aload_n 1, 1) := by decide +kernel
theorem dX0_toggle_22 : decode cX0_toggle 22 = .ok (.iload 4, 2) := by decide +kernel
theorem dX0_toggle_24 : decode cX0_toggle 24 = .ok (.dup2, 1) := by decide +kernel
theorem dX0_toggle_25 : decode cX0_toggle 25 = .ok (.iaload, 1) := by decide +kernel
theorem dX0_toggle_26 : decode cX0_toggle 26 = .ok (.iconst 1, 1) := by decide +kernel
theorem dX0_toggle_27 : decode cX0_toggle 27 = .ok (.iload_n 3, 1) := by decide +kernel
theorem dX0_toggle_28 : decode cX0_toggle 28 = .ok (.ishl, 1) := by decide +kernel
theorem dX0_toggle_29 : decode cX0_toggle 29 = .ok (.ixor, 1) := by decide +kernel
theorem dX0_toggle_30 : decode cX0_toggle 30 = .ok (.iastore, 1) := by decide +kernel
theorem dX0_toggle_31 : decode cX0_toggle 31 = .ok (.return_, 1) := by decide +kernel
set_option maxRecDepth 20000 in
theorem ggX0_ringOf_X9_isIn : GoodIn wsX0_ringOf wsX9_isIn := goodIn_r _ [4] (by decide +kernel) (by decide +kernel)
set_option maxRecDepth 20000 in
theorem gX0_ringOf_X9_isIn_n39 : GoodIn wsX0_ringOf (wsX9_isIn) := ggX0_ringOf_X9_isIn
theorem dX0_ringOf_0 : decode cX0_ringOf 0 = .ok (.iconst 1, 1) := by decide +kernel
theorem dX0_ringOf_1 : decode cX0_ringOf 1 = .ok (.iload_n 1, 1) := by decide +kernel
theorem dX0_ringOf_2 : decode cX0_ringOf 2 = .ok (.ishl, 1) := by decide +kernel
theorem dX0_ringOf_3 : decode cX0_ringOf 3 = .ok (.istore_n 2, 1) := by decide +kernel
theorem dX0_ringOf_4 : decode cX0_ringOf 4 = .ok (.iconst 0, 1) := by decide +kernel
theorem dX0_ringOf_5 : decode cX0_ringOf 5 = .ok (.istore_n 3, 1) := by decide +kernel
theorem dX0_ringOf_6 : decode cX0_ringOf 6 = .ok (.iconst 0, 1) := by decide +kernel
theorem dX0_ringOf_7 : decode cX0_ringOf 7 = .ok (.istore 4, 2) := by decide +kernel
theorem dX0_ringOf_9 : decode cX0_ringOf 9 = .ok (.iload 4, 2) := by decide +kernel
theorem dX0_ringOf_11 : decode cX0_ringOf 11 = .ok (.bipush 12, 2) := by decide +kernel
theorem dX0_ringOf_13 : decode cX0_ringOf 13 = .ok (.if_icmp .ge 51, 3) := by decide +kernel
theorem dX0_ringOf_16 : decode cX0_ringOf 16 = .ok (.iload_n 2, 1) := by decide +kernel
theorem dX0_ringOf_17 : decode cX0_ringOf 17 = .ok (.iload_n 3, 1) := by decide +kernel
theorem dX0_ringOf_18 : decode cX0_ringOf 18 = .ok (.if_icmp .eq 46, 3) := by decide +kernel
theorem dX0_ringOf_21 : decode cX0_ringOf 21 = .ok (.iload_n 2, 1) := by decide +kernel
theorem dX0_ringOf_22 : decode cX0_ringOf 22 = .ok (.istore_n 3, 1) := by decide +kernel
theorem dX0_ringOf_23 : decode cX0_ringOf 23 = .ok (.iconst 0, 1) := by decide +kernel
theorem dX0_ringOf_24 : decode cX0_ringOf 24 = .ok (.istore 5, 2) := by decide +kernel
theorem dX0_ringOf_26 : decode cX0_ringOf 26 = .ok (.iload 5, 2) := by decide +kernel
theorem dX0_ringOf_28 : decode cX0_ringOf 28 = .ok (.bipush 12, 2) := by decide +kernel
theorem dX0_ringOf_30 : decode cX0_ringOf 30 = .ok (.if_icmp .ge 28, 3) := by decide +kernel
theorem dX0_ringOf_33 : decode cX0_ringOf 33 = .ok (.iload_n 3, 1) := by decide +kernel
theorem dX0_ringOf_34 : decode cX0_ringOf 34 = .ok (.iload 5, 2) := by decide +kernel
theorem dX0_ringOf_36 : decode cX0_ringOf 36 = .ok (.invokestatic 39, 3) := by decide +kernel
theorem dX0_ringOf_39 : decode cX0_ringOf 39 = .ok (.ifCond .eq 13, 3) := by decide +kernel
theorem dX0_ringOf_42 : decode cX0_ringOf 42 = .ok (.iload_n 2, 1) := by decide +kernel
theorem dX0_ringOf_43 : decode cX0_ringOf 43 = .ok (.aload_n 0, 1) := by decide +kernel
theorem dX0_ringOf_44 : decode cX0_ringOf 44 = .ok (.getfield 9, 3) := by decide +kernel
theorem dX0_ringOf_47 : decode cX0_ringOf 47 = .ok (.iload 5, 2) := by decide +kernel
theorem dX0_ringOf_49 : decode cX0_ringOf 49 = .ok (.iaload, 1) := by decide +kernel
theorem dX0_ringOf_50 : decode cX0_ringOf 50 = .ok (.ior, 1) := by decide +kernel
theorem dX0_ringOf_51 : decode cX0_ringOf 51 = .ok (.istore_n 2, 1) := by decide +kernel
theorem dX0_ringOf_52 : decode cX0_ringOf 52 = .ok (.iinc 5 1, 3) := by decide +kernel
theorem dX0_ringOf_55 : decode cX0_ringOf 55 = .ok (.goto (-29), 3) := by decide +kernel
theorem dX0_ringOf_58 : decode cX0_ringOf 58 = .ok (.iinc 4 1, 3) := by decide +kernel
theorem dX0_ringOf_61 : decode cX0_ringOf 61 = .ok (.goto (-52), 3) := by decide +kernel
theorem dX0_ringOf_64 : decode cX0_ringOf 64 = .ok (.iload_n 2, 1) := by decide +kernel
theorem dX0_ringOf_65 : decode cX0_ringOf 65 = .ok (.ireturn, 1) := by decide +kernel
theorem dX1_init_0 : decode cX1_init 0 = .ok (.aload_n 0, 1) := by decide +kernel
theorem dX1_init_1 : decode cX1_init 1 = .ok (.invokespecial 3, 3) := by decide +kernel
theorem dX1_init_4 : decode cX1_init 4 = .ok (.aload_n 0, 1) := by decide +kernel
theorem dX1_init_5 : decode cX1_init 5 = .ok (.aload_n 1, 1) := by decide +kernel
theorem dX1_init_6 : decode cX1_init 6 = .ok (.putfield 9, 3) := by decide +kernel
theorem dX1_init_9 : decode cX1_init 9 = .ok (.aload_n 0, 1) := by decide +kernel
theorem dX1_init_10 : decode cX1_init 10 = .ok (.aload_n 2, 1) := by decide +kernel
theorem dX1_init_11 : decode cX1_init 11 = .ok (.putfield 15, 3) := by decide +kernel
theorem dX1_init_14 : decode cX1_init 14 = .ok (.aload_n 0, 1) := by decide +kernel
theorem dX1_init_15 : decode cX1_init 15 = .ok (.aload_n 3, 1) := by decide +kernel
theorem dX1_init_16 : decode cX1_init 16 = .ok (.putfield 19, 3) := by decide +kernel
theorem dX1_init_19 : decode cX1_init 19 = .ok (.return_, 1) := by decide +kernel
set_option maxRecDepth 20000 in
theorem ggX1_wrongLine_X1_canStand : GoodIn wsX1_wrongLine wsX1_canStand := goodIn_r _ [6, 7, 1, 8, 9, 10, 11, 12, 13, 14, 15, 16, 17, 18, 19, 20, 21, 22, 23, 24, 25, 26, 27, 28, 29, 30, 31, 5, 32, 33, 34, 35, 36, 37, 38, 39, 40, 41, 42, 43, 44, 45, 46, 47, 48, 49, 50, 51, 52, 53, 54, 55, 56, 57, 58, 59, 60, 61, 62, 63, 64, 65, 66, 67, 68, 69, 70, 71, 72, 73, 74, 75, 76, 77, 78, 79, 80, 81, 82, 83, 84, 85, 86, 87, 88, 89, 90, 91, 92, 93, 94, 95, 96, 97, 98, 99, 100, 101, 102, 103, 104, 105, 106, 107, 108, 109, 110, 111, 112, 113, 114, 115, 116, 117, 118, 119, 120, 121, 122, 123, 124, 125, 152, 153, 154, 161, 162, 163, 164, 165, 166, 167, 168, 169, 170, 171, 155, 156, 157, 158, 159, 160, 172, 173, 174, 175, 176, 177, 178, 179, 180] (by decide +kernel) (by decide +kernel)
set_option maxRecDepth 20000 in
theorem gX1_wrongLine_X1_canStand : GoodIn wsX1_wrongLine (wsV RX1 45 RX1 yX1_canStand wsX1_canStand) := goodIn_app (goodIn_of _ (by decide +kernel)) ggX1_wrongLine_X1_canStand
set_option maxRecDepth 20000 in
theorem ggX1_wrongLine_X1_follow : GoodIn wsX1_wrongLine wsX1_follow := goodIn_r _ [129, 1, 130, 131, 132, 25, 133, 134, 135, 136, 27, 137, 20, 138, 139, 140, 141, 142, 70, 71, 72, 73, 143, 144, 145, 146, 28, 147, 148, 149, 150, 151, 152, 153, 154, 155, 156, 157, 158, 159, 160] (by decide +kernel) (by decide +kernel)
set_option maxRecDepth 20000 in
theorem gX1_wrongLine_X1_follow : GoodIn wsX1_wrongLine (wsV RX1 49 RX1 yX1_follow wsX1_follow) := goodIn_app (goodIn_of _ (by decide +kernel)) ggX1_wrongLine_X1_follow
theorem dX1_wrongLine_0 : decode cX1_wrongLine 0 = .ok (.iconst 0, 1) := by decide +kernel
theorem dX1_wrongLine_1 : decode cX1_wrongLine 1 = .ok (.istore_n 3, 1) := by decide +kernel
theorem dX1_wrongLine_2 : decode cX1_wrongLine 2 = .ok (.iload_n 3, 1) := by decide +kernel
theorem dX1_wrongLine_3 : decode cX1_wrongLine 3 = .ok (.aload_n 1, 1) := by decide +kernel
theorem dX1_wrongLine_4 : decode cX1_wrongLine 4 = .ok (.getfield 23, 3) := by decide +kernel
theorem dX1_wrongLine_7 : decode cX1_wrongLine 7 = .ok (.if_icmp .ge 53, 3) := by decide +kernel
theorem dX1_wrongLine_10 : decode cX1_wrongLine 10 = .ok (.aload_n 0, 1) := by decide +kernel
theorem dX1_wrongLine_11 : decode cX1_wrongLine 11 = .ok (.getfield 15, 3) := by decide +kernel
theorem dX1_wrongLine_14 : decode cX1_wrongLine 14 = .ok (.getfield 29, 3) := by decide +kernel
theorem dX1_wrongLine_17 : decode cX1_wrongLine 17 = .ok (.ifCond .ne 29, 3) := by decide +kernel
theorem dX1_wrongLine_20 : decode cX1_wrongLine 20 = .ok (.aload_n 0, 1) := by decide +kernel
theorem dX1_wrongLine_21 : decode cX1_wrongLine 21 = .ok (.aload_n 1, 1) := by decide +kernel
theorem dX1_wrongLine_22 : decode cX1_wrongLine 22 = .ok (.getfield 35, 3) := by decide +kernel
theorem dX1_wrongLine_25 : decode cX1_wrongLine 25 = .ok (.iload_n 3, 1) := by decide +kernel
theorem dX1_wrongLine_26 : decode cX1_wrongLine 26 = .ok (.iaload, 1) := by decide +kernel
theorem dX1_wrongLine_27 : decode cX1_wrongLine 27 = .ok (.aload_n 1, 1) := by decide +kernel
theorem dX1_wrongLine_28 : decode cX1_wrongLine 28 = .ok (.getfield 39, 3) := by decide +kernel
theorem dX1_wrongLine_31 : decode cX1_wrongLine 31 = .ok (.iload_n 3, 1) := by decide +kernel
theorem dX1_wrongLine_32 : decode cX1_wrongLine 32 = .ok (.iaload, 1) := by decide +kernel
theorem dX1_wrongLine_33 : decode cX1_wrongLine 33 = .ok (.aload_n 1, 1) := by decide +kernel
theorem dX1_wrongLine_34 : decode cX1_wrongLine 34 = .ok (.getfield 42, 3) := by decide +kernel
theorem dX1_wrongLine_37 : decode cX1_wrongLine 37 = .ok (.iload_n 3, 1) := by decide +kernel
theorem dX1_wrongLine_38 : decode cX1_wrongLine 38 = .ok (.iaload, 1) := by decide +kernel
theorem dX1_wrongLine_39 : decode cX1_wrongLine 39 = .ok (.iload_n 2, 1) := by decide +kernel
theorem dX1_wrongLine_40 : decode cX1_wrongLine 40 = .ok (.invokevirtual 45, 3) := by decide +kernel
theorem dX1_wrongLine_43 : decode cX1_wrongLine 43 = .ok (.ifCond .ne 5, 3) := by decide +kernel
theorem dX1_wrongLine_46 : decode cX1_wrongLine 46 = .ok (.iload_n 3, 1) := by decide +kernel
theorem dX1_wrongLine_47 : decode cX1_wrongLine 47 = .ok (.ireturn, 1) := by decide +kernel
theorem dX1_wrongLine_48 : decode cX1_wrongLine 48 = .ok (.aload_n 0, 1) := by decide +kernel
theorem dX1_wrongLine_49 : decode cX1_wrongLine 49 = .ok (.aload_n 1, 1) := by decide +kernel
theorem dX1_wrongLine_50 : decode cX1_wrongLine 50 = .ok (.iload_n 3, 1) := by decide +kernel
theorem dX1_wrongLine_51 : decode cX1_wrongLine 51 = .ok (.invokevirtual 49, 3) := by decide +kernel
theorem dX1_wrongLine_54 : decode cX1_wrongLine 54 = .ok (.iinc 3 1, 3) := by decide +kernel
theorem dX1_wrongLine_57 : decode cX1_wrongLine 57 = .ok (.goto (-55), 3) := by decide +kernel
theorem dX1_wrongLine_60 : decode cX1_wrongLine 60 = .ok (.aload_n 0, 1) := by decide +kernel
theorem dX1_wrongLine_61 : decode cX1_wrongLine 61 = .ok (.getfield 15, 3) := by decide +kernel
theorem dX1_wrongLine_64 : decode cX1_wrongLine 64 = .ok (.getfield 29, 3) := by decide +kernel
theorem dX1_wrongLine_67 : decode cX1_wrongLine 67 = .ok (.ifCond .eq 7, 3) := by decide +kernel
theorem dX1_wrongLine_70 : decode cX1_wrongLine 70 = .ok (.iconst (-1), 1) := by decide +kernel
theorem dX1_wrongLine_71 : decode cX1_wrongLine 71 = .ok (.goto 7, 3) := by decide +kernel
theorem dX1_wrongLine_74 : decode cX1_wrongLine 74 = .ok (.aload_n 1, 1) := by decide +kernel
theorem dX1_wrongLine_75 : decode cX1_wrongLine 75 = .ok (.getfield 23, 3) := by decide +kernel
theorem dX1_wrongLine_78 : decode cX1_wrongLine 78 = .ok (.ireturn, 1) := by decide +kernel
set_option maxRecDepth 20000 in
theorem ggX1_write_X1_writeNext : GoodIn wsX1_write wsX1_writeNext := goodIn_r _ [6, 7, 8, 9, 10, 5, 11, 12, 13, 14, 15, 16, 1, 17, 18, 19, 20, 21, 22, 23, 24, 25, 26, 27, 28, 29, 30, 31, 32, 33, 34, 35, 36, 37, 38, 39, 40, 41, 42, 43, 44, 45, 46, 47, 48, 49, 50, 51, 52, 53, 54, 55, 56, 57, 58, 59, 60, 61, 62, 63, 64, 65, 66, 67, 68, 69, 70, 71, 72, 73, 74, 75, 76, 77, 78, 79, 80, 81, 82, 83, 84, 85, 86, 87, 88, 89, 90, 91, 92, 93, 94, 95, 96, 97, 98, 99, 100, 101, 102, 103, 104, 105, 106, 107, 108, 109, 110, 111, 112, 113, 114, 115, 116, 117, 118, 119, 120, 121, 122, 123, 124, 125, 126, 127, 128, 129, 130, 131, 132, 133, 134, 135, 136, 137, 138, 139, 140, 141, 142, 143, 144, 145, 146, 147, 148, 149, 150, 177, 178, 179, 186, 187, 188, 189, 190, 191, 192, 193, 194, 195, 196, 180, 181, 182, 183, 184, 185, 173, 174, 175, 176, 197, 198, 199, 200, 201, 202, 203, 204, 205] (by decide +kernel) (by decide +kernel)
set_option maxRecDepth 20000 in
theorem gX1_write_X1_writeNext : GoodIn wsX1_write (wsV RX1 53 RX1 yX1_writeNext wsX1_writeNext) := goodIn_app (goodIn_of _ (by decide +kernel)) ggX1_write_X1_writeNext
set_option maxRecDepth 20000 in
theorem ggX1_write_X1_follow : GoodIn wsX1_write wsX1_follow := goodIn_r _ [154, 1, 155, 156, 157, 67, 158, 159, 160, 161, 69, 162, 18, 163, 164, 165, 166, 167, 104, 105, 106, 107, 168, 169, 170, 171, 122, 172, 173, 174, 175, 176, 177, 178, 179, 180, 181, 182, 183, 184, 185] (by decide +kernel) (by decide +kernel)
set_option maxRecDepth 20000 in
theorem gX1_write_X1_follow : GoodIn wsX1_write (wsV RX1 49 RX1 yX1_follow wsX1_follow) := goodIn_app (goodIn_of _ (by decide +kernel)) ggX1_write_X1_follow
theorem dX1_write_0 : decode cX1_write 0 = .ok (.aload_n 1, 1) := by decide +kernel
theorem dX1_write_1 : decode cX1_write 1 = .ok (.iconst 0, 1) := by decide +kernel
theorem dX1_write_2 : decode cX1_write 2 = .ok (.putfield 23, 3) := by decide +kernel
theorem dX1_write_5 : decode cX1_write 5 = .ok (.iconst 0, 1) := by decide +kernel
theorem dX1_write_6 : decode cX1_write 6 = .ok (.istore_n 3, 1) := by decide +kernel
theorem dX1_write_7 : decode cX1_write 7 = .ok (.iload_n 3, 1) := by decide +kernel
theorem dX1_write_8 : decode cX1_write 8 = .ok (.sipush 400, 3) := by decide +kernel
theorem dX1_write_11 : decode cX1_write 11 = .ok (.if_icmp .ge 36, 3) := by decide +kernel
theorem dX1_write_14 : decode cX1_write 14 = .ok (.aload_n 0, 1) := by decide +kernel
theorem dX1_write_15 : decode cX1_write 15 = .ok (.getfield 15, 3) := by decide +kernel
theorem dX1_write_18 : decode cX1_write 18 = .ok (.getfield 29, 3) := by decide +kernel
theorem dX1_write_21 : decode cX1_write 21 = .ok (.ifCond .ne 26, 3) := by decide +kernel
theorem dX1_write_24 : decode cX1_write 24 = .ok (.aload_n 0, 1) := by decide +kernel
theorem dX1_write_25 : decode cX1_write 25 = .ok (.aload_n 1, 1) := by decide +kernel
theorem dX1_write_26 : decode cX1_write 26 = .ok (.iload_n 2, 1) := by decide +kernel
theorem dX1_write_27 : decode cX1_write 27 = .ok (.invokevirtual 53, 3) := by decide +kernel
theorem dX1_write_30 : decode cX1_write 30 = .ok (.ifCond .ne 5, 3) := by decide +kernel
theorem dX1_write_33 : decode cX1_write 33 = .ok (.iconst 0, 1) := by decide +kernel
theorem dX1_write_34 : decode cX1_write 34 = .ok (.ireturn, 1) := by decide +kernel
theorem dX1_write_35 : decode cX1_write 35 = .ok (.aload_n 0, 1) := by decide +kernel
theorem dX1_write_36 : decode cX1_write 36 = .ok (.aload_n 1, 1) := by decide +kernel
theorem dX1_write_37 : decode cX1_write 37 = .ok (.iload_n 3, 1) := by decide +kernel
theorem dX1_write_38 : decode cX1_write 38 = .ok (.invokevirtual 49, 3) := by decide +kernel
theorem dX1_write_41 : decode cX1_write 41 = .ok (.iinc 3 1, 3) := by decide +kernel
theorem dX1_write_44 : decode cX1_write 44 = .ok (.goto (-37), 3) := by decide +kernel
theorem dX1_write_47 : decode cX1_write 47 = .ok (.aload_n 0, 1) := by decide +kernel
theorem dX1_write_48 : decode cX1_write 48 = .ok (.getfield 15, 3) := by decide +kernel
theorem dX1_write_51 : decode cX1_write 51 = .ok (.getfield 29, 3) := by decide +kernel
theorem dX1_write_54 : decode cX1_write 54 = .ok (.ireturn, 1) := by decide +kernel
set_option maxRecDepth 20000 in
theorem ggX1_follow_X0_splitBy : GoodIn wsX1_follow wsX0_splitBy := goodIn_r _ [6, 7, 8, 9, 10, 11, 12, 13, 14, 15, 16, 5, 17, 18, 19, 20, 21, 35, 36, 37, 38, 39, 40] (by decide +kernel) (by decide +kernel)
set_option maxRecDepth 20000 in
theorem gX1_follow_X0_splitBy : GoodIn wsX1_follow (wsV RX1 57 RX0 yX0_splitBy wsX0_splitBy) := goodIn_app (goodIn_of _ (by decide +kernel)) ggX1_follow_X0_splitBy
set_option maxRecDepth 20000 in
theorem ggX1_follow_X0_goOn : GoodIn wsX1_follow wsX0_goOn := goodIn_r _ [25, 7, 9, 26, 8, 27, 10, 14, 15, 16, 5, 17, 18, 12, 19, 20, 21, 35, 36, 37, 38, 39, 40] (by decide +kernel) (by decide +kernel)
set_option maxRecDepth 20000 in
theorem gX1_follow_X0_goOn : GoodIn wsX1_follow (wsV RX1 61 RX0 yX0_goOn wsX0_goOn) := goodIn_app (goodIn_of _ (by decide +kernel)) ggX1_follow_X0_goOn
theorem dX1_follow_0 : decode cX1_follow 0 = .ok (.aload_n 1, 1) := by decide +kernel
theorem dX1_follow_1 : decode cX1_follow 1 = .ok (.getfield 35, 3) := by decide +kernel
theorem dX1_follow_4 : decode cX1_follow 4 = .ok (.iload_n 2, 1) := by decide +kernel
theorem dX1_follow_5 : decode cX1_follow 5 = .ok (.iaload, 1) := by decide +kernel
theorem dX1_follow_6 : decode cX1_follow 6 = .ok (.iconst 1, 1) := by decide +kernel
theorem dX1_follow_7 : decode cX1_follow 7 = .ok (.if_icmp .ne 25, 3) := by decide +kernel
theorem dX1_follow_10 : decode cX1_follow 10 = .ok (.aload_n 0, 1) := by decide +kernel
theorem dX1_follow_11 : decode cX1_follow 11 = .ok (.getfield 15, 3) := by decide +kernel
theorem dX1_follow_14 : decode cX1_follow 14 = .ok (.aload_n 1, 1) := by decide +kernel
theorem dX1_follow_15 : decode cX1_follow 15 = .ok (.getfield 39, 3) := by decide +kernel
theorem dX1_follow_18 : decode cX1_follow 18 = .ok (.iload_n 2, 1) := by decide +kernel
theorem dX1_follow_19 : decode cX1_follow 19 = .ok (.iaload, 1) := by decide +kernel
theorem dX1_follow_20 : decode cX1_follow 20 = .ok (.aload_n 1, 1) := by decide +kernel
theorem dX1_follow_21 : decode cX1_follow 21 = .ok (.getfield 42, 3) := by decide +kernel
theorem dX1_follow_24 : decode cX1_follow 24 = .ok (.iload_n 2, 1) := by decide +kernel
theorem dX1_follow_25 : decode cX1_follow 25 = .ok (.iaload, 1) := by decide +kernel
theorem dX1_follow_26 : decode cX1_follow 26 = .ok (.invokevirtual 57, 3) := by decide +kernel
theorem dX1_follow_29 : decode cX1_follow 29 = .ok (.goto 10, 3) := by decide +kernel
theorem dX1_follow_32 : decode cX1_follow 32 = .ok (.aload_n 0, 1) := by decide +kernel
theorem dX1_follow_33 : decode cX1_follow 33 = .ok (.getfield 15, 3) := by decide +kernel
theorem dX1_follow_36 : decode cX1_follow 36 = .ok (.invokevirtual 61, 3) := by decide +kernel
theorem dX1_follow_39 : decode cX1_follow 39 = .ok (.return_, 1) := by decide +kernel
set_option maxRecDepth 20000 in
theorem ggX1_canStand_X2_isLive : GoodIn wsX1_canStand wsX2_isLive := goodIn_r _ [7, 8, 9, 10, 11, 6, 12, 13, 14, 15, 16, 125, 126, 127, 128, 129, 130, 131, 132, 133, 134, 135] (by decide +kernel) (by decide +kernel)
set_option maxRecDepth 20000 in
theorem gX1_canStand_X2_isLive : GoodIn wsX1_canStand (wsV RX1 64 RX2 yX2_isLive wsX2_isLive) := goodIn_app (goodIn_of _ (by decide +kernel)) ggX1_canStand_X2_isLive
set_option maxRecDepth 20000 in
theorem ggX1_canStand_X0_isFree : GoodIn wsX1_canStand wsX0_isFree := goodIn_r _ [21, 22, 23, 14, 15, 16, 136, 137, 138, 139, 140, 141] (by decide +kernel) (by decide +kernel)
set_option maxRecDepth 20000 in
theorem gX1_canStand_X0_isFree : GoodIn wsX1_canStand (wsV RX1 70 RX0 yX0_isFree wsX0_isFree) := goodIn_app (goodIn_of _ (by decide +kernel)) ggX1_canStand_X0_isFree
set_option maxRecDepth 20000 in
theorem ggX1_canStand_X1_pricesStand : GoodIn wsX1_canStand wsX1_pricesStand := goodIn_r _ [28, 29, 30, 31, 32, 33, 34, 35, 36, 37, 38, 39, 40, 41, 42, 6, 43, 13, 8, 14, 15, 16, 44, 45, 46, 47, 48, 49, 50, 51, 52, 53, 54, 55, 56, 57, 58, 59, 60, 61, 62, 63, 64, 65, 66, 67, 68, 69, 70, 71, 72, 73, 74, 75, 76, 77, 78, 20, 79, 22, 80, 81, 82, 83, 23, 84, 85, 86, 87, 88, 89, 90, 91, 92, 93, 94, 95, 96, 97, 98, 99, 100, 101, 102, 103, 4, 5, 7, 9, 10, 11, 12, 122, 123, 124, 142, 143, 144, 145, 146, 147, 148, 149, 150, 125, 126, 127, 128, 129, 130, 131, 132, 133, 134, 135, 136, 137, 138, 139, 140, 141] (by decide +kernel) (by decide +kernel)
set_option maxRecDepth 20000 in
theorem gX1_canStand_X1_pricesStand : GoodIn wsX1_canStand (wsV RX1 74 RX1 yX1_pricesStand wsX1_pricesStand) := goodIn_app (goodIn_of _ (by decide +kernel)) ggX1_canStand_X1_pricesStand
set_option maxRecDepth 20000 in
theorem ggX1_canStand_X1_partedTwins : GoodIn wsX1_canStand wsX1_partedTwins := goodIn_r _ [107, 1, 2, 122, 123, 124, 125, 126, 127, 128, 129, 130, 131, 132, 133, 134, 135, 136, 137, 138, 139, 140, 141] (by decide +kernel) (by decide +kernel)
set_option maxRecDepth 20000 in
theorem gX1_canStand_X1_partedTwins : GoodIn wsX1_canStand (wsV RX1 77 RX1 yX1_partedTwins wsX1_partedTwins) := goodIn_app (goodIn_of _ (by decide +kernel)) ggX1_canStand_X1_partedTwins
set_option maxRecDepth 20000 in
theorem ggX1_canStand_X9_isIn : GoodIn wsX1_canStand wsX9_isIn := goodIn_r _ [16] (by decide +kernel) (by decide +kernel)
set_option maxRecDepth 20000 in
theorem gX1_canStand_X9_isIn_n81 : GoodIn wsX1_canStand (wsX9_isIn) := ggX1_canStand_X9_isIn
set_option maxRecDepth 20000 in
theorem ggX1_canStand_X1_standsAlone : GoodIn wsX1_canStand wsX1_standsAlone := goodIn_r _ [111, 1, 2, 112, 50, 51, 6, 52, 8, 53, 54, 55, 56, 57, 58, 59, 113, 114, 115, 116, 20, 117, 22, 14, 15, 16, 118, 119, 120, 27, 121, 122, 123, 124, 136, 137, 138, 139, 140, 141, 125, 126, 127, 128, 129, 130, 131, 132, 133, 134, 135] (by decide +kernel) (by decide +kernel)
set_option maxRecDepth 20000 in
theorem gX1_canStand_X1_standsAlone : GoodIn wsX1_canStand (wsV RX1 84 RX1 yX1_standsAlone wsX1_standsAlone) := goodIn_app (goodIn_of _ (by decide +kernel)) ggX1_canStand_X1_standsAlone
theorem dX1_canStand_0 : decode cX1_canStand 0 = .ok (.iload_n 1, 1) := by decide +kernel
theorem dX1_canStand_1 : decode cX1_canStand 1 = .ok (.lookupswitch 127 #[(1, 35), (2, 80), (6, 87)], 35) := by decide +kernel
theorem dX1_canStand_36 : decode cX1_canStand 36 = .ok (.iload_n 2, 1) := by decide +kernel
theorem dX1_canStand_37 : decode cX1_canStand 37 = .ok (.iload_n 3, 1) := by decide +kernel
theorem dX1_canStand_38 : decode cX1_canStand 38 = .ok (.if_icmp .ge 41, 3) := by decide +kernel
theorem dX1_canStand_41 : decode cX1_canStand 41 = .ok (.aload_n 0, 1) := by decide +kernel
theorem dX1_canStand_42 : decode cX1_canStand 42 = .ok (.getfield 9, 3) := by decide +kernel
theorem dX1_canStand_45 : decode cX1_canStand 45 = .ok (.iload_n 2, 1) := by decide +kernel
theorem dX1_canStand_46 : decode cX1_canStand 46 = .ok (.invokevirtual 64, 3) := by decide +kernel
theorem dX1_canStand_49 : decode cX1_canStand 49 = .ok (.ifCond .eq 30, 3) := by decide +kernel
theorem dX1_canStand_52 : decode cX1_canStand 52 = .ok (.aload_n 0, 1) := by decide +kernel
theorem dX1_canStand_53 : decode cX1_canStand 53 = .ok (.getfield 9, 3) := by decide +kernel
theorem dX1_canStand_56 : decode cX1_canStand 56 = .ok (.iload_n 3, 1) := by decide +kernel
theorem dX1_canStand_57 : decode cX1_canStand 57 = .ok (.invokevirtual 64, 3) := by decide +kernel
theorem dX1_canStand_60 : decode cX1_canStand 60 = .ok (.ifCond .eq 19, 3) := by decide +kernel
theorem dX1_canStand_63 : decode cX1_canStand 63 = .ok (.aload_n 0, 1) := by decide +kernel
theorem dX1_canStand_64 : decode cX1_canStand 64 = .ok (.getfield 15, 3) := by decide +kernel
theorem dX1_canStand_67 : decode cX1_canStand 67 = .ok (.iload_n 2, 1) := by decide +kernel
theorem dX1_canStand_68 : decode cX1_canStand 68 = .ok (.iload_n 3, 1) := by decide +kernel
theorem dX1_canStand_69 : decode cX1_canStand 69 = .ok (.invokevirtual 70, 3) := by decide +kernel
theorem dX1_canStand_72 : decode cX1_canStand 72 = .ok (.ifCond .eq 7, 3) := by decide +kernel
theorem dX1_canStand_75 : decode cX1_canStand 75 = .ok (.iconst 1, 1) := by decide +kernel
theorem dX1_canStand_76 : decode cX1_canStand 76 = .ok (.goto 4, 3) := by decide +kernel
theorem dX1_canStand_79 : decode cX1_canStand 79 = .ok (.iconst 0, 1) := by decide +kernel
theorem dX1_canStand_80 : decode cX1_canStand 80 = .ok (.ireturn, 1) := by decide +kernel
theorem dX1_canStand_81 : decode cX1_canStand 81 = .ok (.aload_n 0, 1) := by decide +kernel
theorem dX1_canStand_82 : decode cX1_canStand 82 = .ok (.iload 4, 2) := by decide +kernel
theorem dX1_canStand_84 : decode cX1_canStand 84 = .ok (.invokevirtual 74, 3) := by decide +kernel
theorem dX1_canStand_87 : decode cX1_canStand 87 = .ok (.ireturn, 1) := by decide +kernel
theorem dX1_canStand_88 : decode cX1_canStand 88 = .ok (.aload_n 0, 1) := by decide +kernel
theorem dX1_canStand_89 : decode cX1_canStand 89 = .ok (.getfield 9, 3) := by decide +kernel
theorem dX1_canStand_92 : decode cX1_canStand 92 = .ok (.iload_n 2, 1) := by decide +kernel
theorem dX1_canStand_93 : decode cX1_canStand 93 = .ok (.invokevirtual 64, 3) := by decide +kernel
theorem dX1_canStand_96 : decode cX1_canStand 96 = .ok (.ifCond .eq 30, 3) := by decide +kernel
theorem dX1_canStand_99 : decode cX1_canStand 99 = .ok (.aload_n 0, 1) := by decide +kernel
theorem dX1_canStand_100 : decode cX1_canStand 100 = .ok (.getfield 9, 3) := by decide +kernel
theorem dX1_canStand_103 : decode cX1_canStand 103 = .ok (.iload_n 3, 1) := by decide +kernel
theorem dX1_canStand_104 : decode cX1_canStand 104 = .ok (.invokevirtual 64, 3) := by decide +kernel
theorem dX1_canStand_107 : decode cX1_canStand 107 = .ok (.ifCond .eq 19, 3) := by decide +kernel
theorem dX1_canStand_110 : decode cX1_canStand 110 = .ok (.aload_n 0, 1) := by decide +kernel
theorem dX1_canStand_111 : decode cX1_canStand 111 = .ok (.iload_n 2, 1) := by decide +kernel
theorem dX1_canStand_112 : decode cX1_canStand 112 = .ok (.invokevirtual 77, 3) := by decide +kernel
theorem dX1_canStand_115 : decode cX1_canStand 115 = .ok (.iload_n 3, 1) := by decide +kernel
theorem dX1_canStand_116 : decode cX1_canStand 116 = .ok (.invokestatic 81, 3) := by decide +kernel
theorem dX1_canStand_119 : decode cX1_canStand 119 = .ok (.ifCond .eq 7, 3) := by decide +kernel
theorem dX1_canStand_122 : decode cX1_canStand 122 = .ok (.iconst 1, 1) := by decide +kernel
theorem dX1_canStand_123 : decode cX1_canStand 123 = .ok (.goto 4, 3) := by decide +kernel
theorem dX1_canStand_126 : decode cX1_canStand 126 = .ok (.iconst 0, 1) := by decide +kernel
theorem dX1_canStand_127 : decode cX1_canStand 127 = .ok (.ireturn, 1) := by decide +kernel
theorem dX1_canStand_128 : decode cX1_canStand 128 = .ok (.aload_n 0, 1) := by decide +kernel
theorem dX1_canStand_129 : decode cX1_canStand 129 = .ok (.getfield 9, 3) := by decide +kernel
theorem dX1_canStand_132 : decode cX1_canStand 132 = .ok (.iload_n 2, 1) := by decide +kernel
theorem dX1_canStand_133 : decode cX1_canStand 133 = .ok (.invokevirtual 64, 3) := by decide +kernel
theorem dX1_canStand_136 : decode cX1_canStand 136 = .ok (.ifCond .eq 16, 3) := by decide +kernel
theorem dX1_canStand_139 : decode cX1_canStand 139 = .ok (.aload_n 0, 1) := by decide +kernel
theorem dX1_canStand_140 : decode cX1_canStand 140 = .ok (.iload_n 1, 1) := by decide +kernel
theorem dX1_canStand_141 : decode cX1_canStand 141 = .ok (.iload_n 2, 1) := by decide +kernel
theorem dX1_canStand_142 : decode cX1_canStand 142 = .ok (.invokevirtual 84, 3) := by decide +kernel
theorem dX1_canStand_145 : decode cX1_canStand 145 = .ok (.ifCond .eq 7, 3) := by decide +kernel
theorem dX1_canStand_148 : decode cX1_canStand 148 = .ok (.iconst 1, 1) := by decide +kernel
theorem dX1_canStand_149 : decode cX1_canStand 149 = .ok (.goto 4, 3) := by decide +kernel
theorem dX1_canStand_152 : decode cX1_canStand 152 = .ok (.iconst 0, 1) := by decide +kernel
theorem dX1_canStand_153 : decode cX1_canStand 153 = .ok (.ireturn, 1) := by decide +kernel
set_option maxRecDepth 20000 in
theorem ggX1_pricesStand_X8_grow : GoodIn wsX1_pricesStand wsX8_grow := goodIn_r _ [6, 7, 8, 9, 10, 11, 12, 13, 14, 15, 16, 17, 18, 19, 20, 21, 22, 23, 24, 5, 25, 26, 27, 28, 29, 30, 31, 32, 33, 34, 35, 36, 37, 38, 39, 40, 41, 42, 43, 44, 45, 46, 47, 48, 49, 50, 51, 52, 53, 54, 55, 56, 57, 58, 59, 60, 61, 62, 63, 64, 65, 66, 67, 68, 69, 70, 71, 72, 73, 74, 75, 76, 77, 95, 96, 97, 98, 99, 100, 101, 102, 103, 104, 105, 106, 107, 108, 109, 110, 111, 112, 113, 114, 115, 116, 117, 118, 119, 120] (by decide +kernel) (by decide +kernel)
set_option maxRecDepth 20000 in
theorem gX1_pricesStand_X8_grow : GoodIn wsX1_pricesStand (wsV RX1 87 RX8 yX8_grow wsX8_grow) := goodIn_app (goodIn_of _ (by decide +kernel)) ggX1_pricesStand_X8_grow
set_option maxRecDepth 20000 in
theorem ggX1_pricesStand_X8_sumOfCase : GoodIn wsX1_pricesStand wsX8_sumOfCase := goodIn_r _ [81, 11, 8, 10, 82, 9, 83, 12, 13, 14, 15, 16, 17, 18, 19, 20, 21, 84, 85, 86, 87, 88, 89, 90, 91, 95, 96, 97, 98, 99, 100, 101, 102, 103, 104, 105, 106, 107, 108, 109, 110, 111, 112, 113, 114] (by decide +kernel) (by decide +kernel)
set_option maxRecDepth 20000 in
theorem gX1_pricesStand_X8_sumOfCase : GoodIn wsX1_pricesStand (wsV RX1 92 RX8 yX8_sumOfCase wsX8_sumOfCase) := goodIn_app (goodIn_of _ (by decide +kernel)) ggX1_pricesStand_X8_sumOfCase
theorem dX1_pricesStand_0 : decode cX1_pricesStand 0 = .ok (.aload_n 0, 1) := by decide +kernel
theorem dX1_pricesStand_1 : decode cX1_pricesStand 1 = .ok (.getfield 19, 3) := by decide +kernel
theorem dX1_pricesStand_4 : decode cX1_pricesStand 4 = .ok (.invokevirtual 87, 3) := by decide +kernel
theorem dX1_pricesStand_7 : decode cX1_pricesStand 7 = .ok (.aload_n 0, 1) := by decide +kernel
theorem dX1_pricesStand_8 : decode cX1_pricesStand 8 = .ok (.getfield 19, 3) := by decide +kernel
theorem dX1_pricesStand_11 : decode cX1_pricesStand 11 = .ok (.invokevirtual 92, 3) := by decide +kernel
theorem dX1_pricesStand_14 : decode cX1_pricesStand 14 = .ok (.iload_n 1, 1) := by decide +kernel
theorem dX1_pricesStand_15 : decode cX1_pricesStand 15 = .ok (.i2l, 1) := by decide +kernel
theorem dX1_pricesStand_16 : decode cX1_pricesStand 16 = .ok (.lcmp, 1) := by decide +kernel
theorem dX1_pricesStand_17 : decode cX1_pricesStand 17 = .ok (.ifCond .lt 7, 3) := by decide +kernel
theorem dX1_pricesStand_20 : decode cX1_pricesStand 20 = .ok (.iconst 1, 1) := by decide +kernel
theorem dX1_pricesStand_21 : decode cX1_pricesStand 21 = .ok (.goto 4, 3) := by decide +kernel
theorem dX1_pricesStand_24 : decode cX1_pricesStand 24 = .ok (.iconst 0, 1) := by decide +kernel
theorem dX1_pricesStand_25 : decode cX1_pricesStand 25 = .ok (.ireturn, 1) := by decide +kernel
theorem dX1_partedTwins_0 : decode cX1_partedTwins 0 = .ok (.aload_n 0, 1) := by decide +kernel
theorem dX1_partedTwins_1 : decode cX1_partedTwins 1 = .ok (.getfield 9, 3) := by decide +kernel
theorem dX1_partedTwins_4 : decode cX1_partedTwins 4 = .ok (.getfield 96, 3) := by decide +kernel
theorem dX1_partedTwins_7 : decode cX1_partedTwins 7 = .ok (.iload_n 1, 1) := by decide +kernel
theorem dX1_partedTwins_8 : decode cX1_partedTwins 8 = .ok (.iaload, 1) := by decide +kernel
theorem dX1_partedTwins_9 : decode cX1_partedTwins 9 = .ok (.aload_n 0, 1) := by decide +kernel
theorem dX1_partedTwins_10 : decode cX1_partedTwins 10 = .ok (.getfield 15, 3) := by decide +kernel
theorem dX1_partedTwins_13 : decode cX1_partedTwins 13 = .ok (.getfield 99, 3) := by decide +kernel
theorem dX1_partedTwins_16 : decode cX1_partedTwins 16 = .ok (.iload_n 1, 1) := by decide +kernel
theorem dX1_partedTwins_17 : decode cX1_partedTwins 17 = .ok (.iaload, 1) := by decide +kernel
theorem dX1_partedTwins_18 : decode cX1_partedTwins 18 = .ok (.iand, 1) := by decide +kernel
theorem dX1_partedTwins_19 : decode cX1_partedTwins 19 = .ok (.ireturn, 1) := by decide +kernel
set_option maxRecDepth 20000 in
theorem ggX1_standsAlone_X2_liveCount : GoodIn wsX1_standsAlone wsX2_liveCount := goodIn_r _ [7, 8, 9, 10, 11, 12, 13, 14, 15, 40, 41, 42, 43, 44, 45, 46, 47, 48, 49, 50] (by decide +kernel) (by decide +kernel)
set_option maxRecDepth 20000 in
theorem gX1_standsAlone_X2_liveCount : GoodIn wsX1_standsAlone (wsV RX1 102 RX2 yX2_liveCount wsX2_liveCount) := goodIn_app (goodIn_of _ (by decide +kernel)) ggX1_standsAlone_X2_liveCount
set_option maxRecDepth 20000 in
theorem ggX1_standsAlone_J6_bitCount_0f7a4 : GoodIn wsX1_standsAlone wsJ6_bitCount_0f7a4 := goodIn_r _ [12, 13, 14, 15] (by decide +kernel) (by decide +kernel)
set_option maxRecDepth 20000 in
theorem gX1_standsAlone_J6_bitCount_0f7a4 : GoodIn wsX1_standsAlone (va_wsS RX1 106 yJ6_bitCount_0f7a4 wsJ6_bitCount_0f7a4) := goodIn_app (goodIn_of _ (by decide +kernel)) ggX1_standsAlone_J6_bitCount_0f7a4
set_option maxRecDepth 20000 in
theorem ggX1_standsAlone_X0_ringOf : GoodIn wsX1_standsAlone wsX0_ringOf := goodIn_r _ [21, 22, 23, 24, 25, 34, 35, 36, 37, 38, 39] (by decide +kernel) (by decide +kernel)
set_option maxRecDepth 20000 in
theorem gX1_standsAlone_X0_ringOf : GoodIn wsX1_standsAlone (wsV RX1 114 RX0 yX0_ringOf wsX0_ringOf) := goodIn_app (goodIn_of _ (by decide +kernel)) ggX1_standsAlone_X0_ringOf
set_option maxRecDepth 20000 in
theorem ggX1_standsAlone_X1_isRing : GoodIn wsX1_standsAlone wsX1_isRing := goodIn_r _ [30, 2, 1, 23, 24, 25, 16, 10, 11, 12, 13, 14, 15, 31, 32, 33, 34, 35, 36, 37, 38, 39, 40, 41, 42, 43, 44, 45, 46, 47, 48, 49, 50] (by decide +kernel) (by decide +kernel)
set_option maxRecDepth 20000 in
theorem gX1_standsAlone_X1_isRing : GoodIn wsX1_standsAlone (wsV RX1 117 RX1 yX1_isRing wsX1_isRing) := goodIn_app (goodIn_of _ (by decide +kernel)) ggX1_standsAlone_X1_isRing
theorem dX1_standsAlone_0 : decode cX1_standsAlone 0 = .ok (.iload_n 1, 1) := by decide +kernel
theorem dX1_standsAlone_1 : decode cX1_standsAlone 1 = .ok (.tableswitch 94 3 5 #[27, 59, 81], 27) := by decide +kernel
theorem dX1_standsAlone_28 : decode cX1_standsAlone 28 = .ok (.aload_n 0, 1) := by decide +kernel
theorem dX1_standsAlone_29 : decode cX1_standsAlone 29 = .ok (.getfield 9, 3) := by decide +kernel
theorem dX1_standsAlone_32 : decode cX1_standsAlone 32 = .ok (.invokevirtual 102, 3) := by decide +kernel
theorem dX1_standsAlone_35 : decode cX1_standsAlone 35 = .ok (.iconst 1, 1) := by decide +kernel
theorem dX1_standsAlone_36 : decode cX1_standsAlone 36 = .ok (.isub, 1) := by decide +kernel
theorem dX1_standsAlone_37 : decode cX1_standsAlone 37 = .ok (.aload_n 0, 1) := by decide +kernel
theorem dX1_standsAlone_38 : decode cX1_standsAlone 38 = .ok (.getfield 15, 3) := by decide +kernel
theorem dX1_standsAlone_41 : decode cX1_standsAlone 41 = .ok (.getfield 99, 3) := by decide +kernel
theorem dX1_standsAlone_44 : decode cX1_standsAlone 44 = .ok (.iload_n 2, 1) := by decide +kernel
theorem dX1_standsAlone_45 : decode cX1_standsAlone 45 = .ok (.iaload, 1) := by decide +kernel
theorem dX1_standsAlone_46 : decode cX1_standsAlone 46 = .ok (.invokestatic 106, 3) := by decide +kernel
theorem dX1_standsAlone_49 : decode cX1_standsAlone 49 = .ok (.isub, 1) := by decide +kernel
theorem dX1_standsAlone_50 : decode cX1_standsAlone 50 = .ok (.iconst 2, 1) := by decide +kernel
theorem dX1_standsAlone_51 : decode cX1_standsAlone 51 = .ok (.if_icmp .ge 7, 3) := by decide +kernel
theorem dX1_standsAlone_54 : decode cX1_standsAlone 54 = .ok (.iconst 1, 1) := by decide +kernel
theorem dX1_standsAlone_55 : decode cX1_standsAlone 55 = .ok (.goto 4, 3) := by decide +kernel
theorem dX1_standsAlone_58 : decode cX1_standsAlone 58 = .ok (.iconst 0, 1) := by decide +kernel
theorem dX1_standsAlone_59 : decode cX1_standsAlone 59 = .ok (.ireturn, 1) := by decide +kernel
theorem dX1_standsAlone_60 : decode cX1_standsAlone 60 = .ok (.aload_n 0, 1) := by decide +kernel
theorem dX1_standsAlone_61 : decode cX1_standsAlone 61 = .ok (.getfield 15, 3) := by decide +kernel
theorem dX1_standsAlone_64 : decode cX1_standsAlone 64 = .ok (.getfield 111, 3) := by decide +kernel
theorem dX1_standsAlone_67 : decode cX1_standsAlone 67 = .ok (.iload_n 2, 1) := by decide +kernel
theorem dX1_standsAlone_68 : decode cX1_standsAlone 68 = .ok (.iaload, 1) := by decide +kernel
theorem dX1_standsAlone_69 : decode cX1_standsAlone 69 = .ok (.invokestatic 106, 3) := by decide +kernel
theorem dX1_standsAlone_72 : decode cX1_standsAlone 72 = .ok (.iconst 2, 1) := by decide +kernel
theorem dX1_standsAlone_73 : decode cX1_standsAlone 73 = .ok (.if_icmp .le 7, 3) := by decide +kernel
theorem dX1_standsAlone_76 : decode cX1_standsAlone 76 = .ok (.iconst 1, 1) := by decide +kernel
theorem dX1_standsAlone_77 : decode cX1_standsAlone 77 = .ok (.goto 4, 3) := by decide +kernel
theorem dX1_standsAlone_80 : decode cX1_standsAlone 80 = .ok (.iconst 0, 1) := by decide +kernel
theorem dX1_standsAlone_81 : decode cX1_standsAlone 81 = .ok (.ireturn, 1) := by decide +kernel
theorem dX1_standsAlone_82 : decode cX1_standsAlone 82 = .ok (.aload_n 0, 1) := by decide +kernel
theorem dX1_standsAlone_83 : decode cX1_standsAlone 83 = .ok (.aload_n 0, 1) := by decide +kernel
theorem dX1_standsAlone_84 : decode cX1_standsAlone 84 = .ok (.getfield 15, 3) := by decide +kernel
theorem dX1_standsAlone_87 : decode cX1_standsAlone 87 = .ok (.iload_n 2, 1) := by decide +kernel
theorem dX1_standsAlone_88 : decode cX1_standsAlone 88 = .ok (.invokevirtual 114, 3) := by decide +kernel
theorem dX1_standsAlone_91 : decode cX1_standsAlone 91 = .ok (.invokevirtual 117, 3) := by decide +kernel
theorem dX1_standsAlone_94 : decode cX1_standsAlone 94 = .ok (.ireturn, 1) := by decide +kernel
theorem dX1_standsAlone_95 : decode cX1_standsAlone 95 = .ok (.iconst 0, 1) := by decide +kernel
theorem dX1_standsAlone_96 : decode cX1_standsAlone 96 = .ok (.ireturn, 1) := by decide +kernel
set_option maxRecDepth 20000 in
theorem ggX1_isRing_X9_isIn : GoodIn wsX1_isRing wsX9_isIn := goodIn_r _ [5] (by decide +kernel) (by decide +kernel)
set_option maxRecDepth 20000 in
theorem gX1_isRing_X9_isIn_n81 : GoodIn wsX1_isRing (wsX9_isIn) := ggX1_isRing_X9_isIn
set_option maxRecDepth 20000 in
theorem ggX1_isRing_J6_bitCount_0f7a4 : GoodIn wsX1_isRing wsJ6_bitCount_0f7a4 := goodIn_r _ [9, 10, 11, 12] (by decide +kernel) (by decide +kernel)
set_option maxRecDepth 20000 in
theorem gX1_isRing_J6_bitCount_0f7a4 : GoodIn wsX1_isRing (va_wsS RX1 106 yJ6_bitCount_0f7a4 wsJ6_bitCount_0f7a4) := goodIn_app (goodIn_of _ (by decide +kernel)) ggX1_isRing_J6_bitCount_0f7a4
theorem dX1_isRing_0 : decode cX1_isRing 0 = .ok (.iconst 0, 1) := by decide +kernel
theorem dX1_isRing_1 : decode cX1_isRing 1 = .ok (.istore_n 2, 1) := by decide +kernel
theorem dX1_isRing_2 : decode cX1_isRing 2 = .ok (.iload_n 2, 1) := by decide +kernel
theorem dX1_isRing_3 : decode cX1_isRing 3 = .ok (.bipush 12, 2) := by decide +kernel
theorem dX1_isRing_5 : decode cX1_isRing 5 = .ok (.if_icmp .ge 35, 3) := by decide +kernel
theorem dX1_isRing_8 : decode cX1_isRing 8 = .ok (.iload_n 1, 1) := by decide +kernel
theorem dX1_isRing_9 : decode cX1_isRing 9 = .ok (.iload_n 2, 1) := by decide +kernel
theorem dX1_isRing_10 : decode cX1_isRing 10 = .ok (.invokestatic 81, 3) := by decide +kernel
theorem dX1_isRing_13 : decode cX1_isRing 13 = .ok (.ifCond .eq 21, 3) := by decide +kernel
theorem dX1_isRing_16 : decode cX1_isRing 16 = .ok (.aload_n 0, 1) := by decide +kernel
theorem dX1_isRing_17 : decode cX1_isRing 17 = .ok (.getfield 15, 3) := by decide +kernel
theorem dX1_isRing_20 : decode cX1_isRing 20 = .ok (.getfield 111, 3) := by decide +kernel
theorem dX1_isRing_23 : decode cX1_isRing 23 = .ok (.iload_n 2, 1) := by decide +kernel
theorem dX1_isRing_24 : decode cX1_isRing 24 = .ok (.iaload, 1) := by decide +kernel
theorem dX1_isRing_25 : decode cX1_isRing 25 = .ok (.invokestatic 106, 3) := by decide +kernel
theorem dX1_isRing_28 : decode cX1_isRing 28 = .ok (.iconst 2, 1) := by decide +kernel
theorem dX1_isRing_29 : decode cX1_isRing 29 = .ok (.if_icmp .eq 5, 3) := by decide +kernel
theorem dX1_isRing_32 : decode cX1_isRing 32 = .ok (.iconst 0, 1) := by decide +kernel
theorem dX1_isRing_33 : decode cX1_isRing 33 = .ok (.ireturn, 1) := by decide +kernel
theorem dX1_isRing_34 : decode cX1_isRing 34 = .ok (.iinc 2 1, 3) := by decide +kernel
theorem dX1_isRing_37 : decode cX1_isRing 37 = .ok (.goto (-35), 3) := by decide +kernel
theorem dX1_isRing_40 : decode cX1_isRing 40 = .ok (.iload_n 1, 1) := by decide +kernel
theorem dX1_isRing_41 : decode cX1_isRing 41 = .ok (.aload_n 0, 1) := by decide +kernel
theorem dX1_isRing_42 : decode cX1_isRing 42 = .ok (.getfield 9, 3) := by decide +kernel
theorem dX1_isRing_45 : decode cX1_isRing 45 = .ok (.getfield 120, 3) := by decide +kernel
theorem dX1_isRing_48 : decode cX1_isRing 48 = .ok (.if_icmp .eq 7, 3) := by decide +kernel
theorem dX1_isRing_51 : decode cX1_isRing 51 = .ok (.iconst 1, 1) := by decide +kernel
theorem dX1_isRing_52 : decode cX1_isRing 52 = .ok (.goto 4, 3) := by decide +kernel
theorem dX1_isRing_55 : decode cX1_isRing 55 = .ok (.iconst 0, 1) := by decide +kernel
theorem dX1_isRing_56 : decode cX1_isRing 56 = .ok (.ireturn, 1) := by decide +kernel
set_option maxRecDepth 20000 in
theorem ggX1_writeNext_X1_writeTwins : GoodIn wsX1_writeNext wsX1_writeTwins := goodIn_r _ [6, 7, 8, 9, 10, 5, 11, 12, 13, 14, 15, 16, 17, 18, 19, 20, 21, 22, 23, 24, 25, 26, 27, 28, 147, 148, 149, 150, 151, 152, 153, 154, 155, 156, 157, 158, 159, 160, 161, 162, 163, 164, 165, 166, 167, 168, 169, 170] (by decide +kernel) (by decide +kernel)
set_option maxRecDepth 20000 in
theorem gX1_writeNext_X1_writeTwins : GoodIn wsX1_writeNext (wsV RX1 123 RX1 yX1_writeTwins wsX1_writeTwins) := goodIn_app (goodIn_of _ (by decide +kernel)) ggX1_writeNext_X1_writeTwins
set_option maxRecDepth 20000 in
theorem ggX1_writeNext_X1_writeAlone : GoodIn wsX1_writeNext wsX1_writeAlone := goodIn_r _ [32, 7, 33, 34, 35, 36, 37, 38, 39, 40, 41, 42, 43, 13, 14, 15, 44, 45, 46, 5, 47, 12, 48, 49, 50, 51, 52, 53, 54, 55, 56, 57, 58, 59, 60, 61, 62, 63, 64, 65, 66, 67, 68, 69, 16, 17, 18, 19, 20, 21, 22, 23, 24, 25, 26, 27, 28, 147, 148, 149, 150, 151, 152, 153, 154, 155, 156, 157, 158, 159, 160, 161, 162, 163, 164, 165, 166, 167, 168, 169, 170] (by decide +kernel) (by decide +kernel)
set_option maxRecDepth 20000 in
theorem gX1_writeNext_X1_writeAlone : GoodIn wsX1_writeNext (wsV RX1 127 RX1 yX1_writeAlone wsX1_writeAlone) := goodIn_app (goodIn_of _ (by decide +kernel)) ggX1_writeNext_X1_writeAlone
set_option maxRecDepth 20000 in
theorem ggX1_writeNext_X1_pricesStand : GoodIn wsX1_writeNext wsX1_pricesStand := goodIn_r _ [73, 1, 74, 75, 76, 77, 78, 79, 80, 81, 82, 83, 84, 85, 86, 36, 87, 43, 38, 13, 14, 15, 88, 89, 90, 91, 92, 93, 49, 50, 51, 52, 53, 54, 55, 56, 57, 58, 94, 95, 96, 97, 98, 99, 100, 101, 102, 103, 104, 105, 106, 107, 108, 109, 110, 111, 112, 63, 113, 65, 114, 115, 116, 117, 118, 119, 120, 121, 122, 123, 124, 125, 126, 127, 128, 129, 130, 131, 132, 133, 134, 135, 136, 137, 138, 34, 35, 37, 39, 40, 41, 42, 147, 148, 149, 171, 172, 173, 174, 175, 176, 177, 178, 179, 150, 151, 152, 153, 154, 155, 156, 157, 158, 159, 160, 161, 162, 163, 164, 165, 166] (by decide +kernel) (by decide +kernel)
set_option maxRecDepth 20000 in
theorem gX1_writeNext_X1_pricesStand : GoodIn wsX1_writeNext (wsV RX1 74 RX1 yX1_pricesStand wsX1_pricesStand) := goodIn_app (goodIn_of _ (by decide +kernel)) ggX1_writeNext_X1_pricesStand
set_option maxRecDepth 20000 in
theorem ggX1_writeNext_X3_append : GoodIn wsX1_writeNext wsX3_append := goodIn_r _ [20, 21, 22, 23, 24, 19, 25, 26, 27, 28, 167, 168, 169, 170] (by decide +kernel) (by decide +kernel)
set_option maxRecDepth 20000 in
theorem gX1_writeNext_X3_append : GoodIn wsX1_writeNext (wsV RX1 130 RX3 yX3_append wsX3_append) := goodIn_app (goodIn_of _ (by decide +kernel)) ggX1_writeNext_X3_append
set_option maxRecDepth 20000 in
theorem ggX1_writeNext_X8_firstFreePair : GoodIn wsX1_writeNext wsX8_firstFreePair := goodIn_r _ [142, 92, 108, 94, 95, 96, 77, 97, 98, 99, 100, 14, 101, 102, 103, 143, 144, 145, 63, 146, 65, 118, 13, 15, 171, 172, 173, 174, 175, 176, 177, 178, 179, 161, 162, 163, 164, 165, 166] (by decide +kernel) (by decide +kernel)
set_option maxRecDepth 20000 in
theorem gX1_writeNext_X8_firstFreePair : GoodIn wsX1_writeNext (wsV RX1 134 RX8 yX8_firstFreePair wsX8_firstFreePair) := goodIn_app (goodIn_of _ (by decide +kernel)) ggX1_writeNext_X8_firstFreePair
set_option maxRecDepth 20000 in
theorem ggX1_writeNext_X9_lesserOf : GoodIn wsX1_writeNext wsX9_lesserOf := goodIn_r _ [101] (by decide +kernel) (by decide +kernel)
set_option maxRecDepth 20000 in
theorem gX1_writeNext_X9_lesserOf_n137 : GoodIn wsX1_writeNext (wsX9_lesserOf) := ggX1_writeNext_X9_lesserOf
set_option maxRecDepth 20000 in
theorem ggX1_writeNext_X9_greaterOf : GoodIn wsX1_writeNext wsX9_greaterOf := goodIn_r _ [103] (by decide +kernel) (by decide +kernel)
set_option maxRecDepth 20000 in
theorem gX1_writeNext_X9_greaterOf_n140 : GoodIn wsX1_writeNext (wsX9_greaterOf) := ggX1_writeNext_X9_greaterOf
theorem dX1_writeNext_0 : decode cX1_writeNext 0 = .ok (.aload_n 0, 1) := by decide +kernel
theorem dX1_writeNext_1 : decode cX1_writeNext 1 = .ok (.aload_n 1, 1) := by decide +kernel
theorem dX1_writeNext_2 : decode cX1_writeNext 2 = .ok (.invokevirtual 123, 3) := by decide +kernel
theorem dX1_writeNext_5 : decode cX1_writeNext 5 = .ok (.ifCond .ne 30, 3) := by decide +kernel
theorem dX1_writeNext_8 : decode cX1_writeNext 8 = .ok (.aload_n 0, 1) := by decide +kernel
theorem dX1_writeNext_9 : decode cX1_writeNext 9 = .ok (.aload_n 1, 1) := by decide +kernel
theorem dX1_writeNext_10 : decode cX1_writeNext 10 = .ok (.iconst 3, 1) := by decide +kernel
theorem dX1_writeNext_11 : decode cX1_writeNext 11 = .ok (.invokevirtual 127, 3) := by decide +kernel
theorem dX1_writeNext_14 : decode cX1_writeNext 14 = .ok (.ifCond .ne 21, 3) := by decide +kernel
theorem dX1_writeNext_17 : decode cX1_writeNext 17 = .ok (.aload_n 0, 1) := by decide +kernel
theorem dX1_writeNext_18 : decode cX1_writeNext 18 = .ok (.aload_n 1, 1) := by decide +kernel
theorem dX1_writeNext_19 : decode cX1_writeNext 19 = .ok (.iconst 4, 1) := by decide +kernel
theorem dX1_writeNext_20 : decode cX1_writeNext 20 = .ok (.invokevirtual 127, 3) := by decide +kernel
theorem dX1_writeNext_23 : decode cX1_writeNext 23 = .ok (.ifCond .ne 12, 3) := by decide +kernel
theorem dX1_writeNext_26 : decode cX1_writeNext 26 = .ok (.aload_n 0, 1) := by decide +kernel
theorem dX1_writeNext_27 : decode cX1_writeNext 27 = .ok (.aload_n 1, 1) := by decide +kernel
theorem dX1_writeNext_28 : decode cX1_writeNext 28 = .ok (.iconst 5, 1) := by decide +kernel
theorem dX1_writeNext_29 : decode cX1_writeNext 29 = .ok (.invokevirtual 127, 3) := by decide +kernel
theorem dX1_writeNext_32 : decode cX1_writeNext 32 = .ok (.ifCond .eq 5, 3) := by decide +kernel
theorem dX1_writeNext_35 : decode cX1_writeNext 35 = .ok (.iconst 1, 1) := by decide +kernel
theorem dX1_writeNext_36 : decode cX1_writeNext 36 = .ok (.ireturn, 1) := by decide +kernel
theorem dX1_writeNext_37 : decode cX1_writeNext 37 = .ok (.aload_n 0, 1) := by decide +kernel
theorem dX1_writeNext_38 : decode cX1_writeNext 38 = .ok (.iload_n 2, 1) := by decide +kernel
theorem dX1_writeNext_39 : decode cX1_writeNext 39 = .ok (.invokevirtual 74, 3) := by decide +kernel
theorem dX1_writeNext_42 : decode cX1_writeNext 42 = .ok (.ifCond .eq 12, 3) := by decide +kernel
theorem dX1_writeNext_45 : decode cX1_writeNext 45 = .ok (.aload_n 1, 1) := by decide +kernel
theorem dX1_writeNext_46 : decode cX1_writeNext 46 = .ok (.iconst 2, 1) := by decide +kernel
theorem dX1_writeNext_47 : decode cX1_writeNext 47 = .ok (.iconst 0, 1) := by decide +kernel
theorem dX1_writeNext_48 : decode cX1_writeNext 48 = .ok (.iconst 0, 1) := by decide +kernel
theorem dX1_writeNext_49 : decode cX1_writeNext 49 = .ok (.invokevirtual 130, 3) := by decide +kernel
theorem dX1_writeNext_52 : decode cX1_writeNext 52 = .ok (.iconst 1, 1) := by decide +kernel
theorem dX1_writeNext_53 : decode cX1_writeNext 53 = .ok (.ireturn, 1) := by decide +kernel
theorem dX1_writeNext_54 : decode cX1_writeNext 54 = .ok (.aload_n 0, 1) := by decide +kernel
theorem dX1_writeNext_55 : decode cX1_writeNext 55 = .ok (.getfield 19, 3) := by decide +kernel
theorem dX1_writeNext_58 : decode cX1_writeNext 58 = .ok (.invokevirtual 134, 3) := by decide +kernel
theorem dX1_writeNext_61 : decode cX1_writeNext 61 = .ok (.istore_n 3, 1) := by decide +kernel
theorem dX1_writeNext_62 : decode cX1_writeNext 62 = .ok (.iload_n 3, 1) := by decide +kernel
theorem dX1_writeNext_63 : decode cX1_writeNext 63 = .ok (.iconst (-1), 1) := by decide +kernel
theorem dX1_writeNext_64 : decode cX1_writeNext 64 = .ok (.if_icmp .ne 5, 3) := by decide +kernel
theorem dX1_writeNext_67 : decode cX1_writeNext 67 = .ok (.iconst 0, 1) := by decide +kernel
theorem dX1_writeNext_68 : decode cX1_writeNext 68 = .ok (.ireturn, 1) := by decide +kernel
theorem dX1_writeNext_69 : decode cX1_writeNext 69 = .ok (.aload_n 1, 1) := by decide +kernel
theorem dX1_writeNext_70 : decode cX1_writeNext 70 = .ok (.iconst 1, 1) := by decide +kernel
theorem dX1_writeNext_71 : decode cX1_writeNext 71 = .ok (.iload_n 3, 1) := by decide +kernel
theorem dX1_writeNext_72 : decode cX1_writeNext 72 = .ok (.invokestatic 137, 3) := by decide +kernel
theorem dX1_writeNext_75 : decode cX1_writeNext 75 = .ok (.iload_n 3, 1) := by decide +kernel
theorem dX1_writeNext_76 : decode cX1_writeNext 76 = .ok (.invokestatic 140, 3) := by decide +kernel
theorem dX1_writeNext_79 : decode cX1_writeNext 79 = .ok (.invokevirtual 130, 3) := by decide +kernel
theorem dX1_writeNext_82 : decode cX1_writeNext 82 = .ok (.iconst 1, 1) := by decide +kernel
theorem dX1_writeNext_83 : decode cX1_writeNext 83 = .ok (.ireturn, 1) := by decide +kernel
set_option maxRecDepth 20000 in
theorem ggX1_writeTwins_X1_partedTwins : GoodIn wsX1_writeTwins wsX1_partedTwins := goodIn_r _ [6, 1, 7, 24, 25, 26, 27, 28, 29, 30, 31, 32, 33, 34, 35, 36, 37, 38, 39, 40, 41, 42, 43] (by decide +kernel) (by decide +kernel)
set_option maxRecDepth 20000 in
theorem gX1_writeTwins_X1_partedTwins : GoodIn wsX1_writeTwins (wsV RX1 77 RX1 yX1_partedTwins wsX1_partedTwins) := goodIn_app (goodIn_of _ (by decide +kernel)) ggX1_writeTwins_X1_partedTwins
set_option maxRecDepth 20000 in
theorem ggX1_writeTwins_X9_isIn : GoodIn wsX1_writeTwins wsX9_isIn := goodIn_r _ [10] (by decide +kernel) (by decide +kernel)
set_option maxRecDepth 20000 in
theorem gX1_writeTwins_X9_isIn_n81 : GoodIn wsX1_writeTwins (wsX9_isIn) := ggX1_writeTwins_X9_isIn
set_option maxRecDepth 20000 in
theorem ggX1_writeTwins_X3_append : GoodIn wsX1_writeTwins wsX3_append := goodIn_r _ [15, 16, 17, 18, 19, 14, 20, 21, 22, 23, 44, 45, 46, 47] (by decide +kernel) (by decide +kernel)
set_option maxRecDepth 20000 in
theorem gX1_writeTwins_X3_append : GoodIn wsX1_writeTwins (wsV RX1 130 RX3 yX3_append wsX3_append) := goodIn_app (goodIn_of _ (by decide +kernel)) ggX1_writeTwins_X3_append
theorem dX1_writeTwins_0 : decode cX1_writeTwins 0 = .ok (.iconst 0, 1) := by decide +kernel
theorem dX1_writeTwins_1 : decode cX1_writeTwins 1 = .ok (.istore_n 2, 1) := by decide +kernel
theorem dX1_writeTwins_2 : decode cX1_writeTwins 2 = .ok (.iload_n 2, 1) := by decide +kernel
theorem dX1_writeTwins_3 : decode cX1_writeTwins 3 = .ok (.aload_n 0, 1) := by decide +kernel
theorem dX1_writeTwins_4 : decode cX1_writeTwins 4 = .ok (.getfield 9, 3) := by decide +kernel
theorem dX1_writeTwins_7 : decode cX1_writeTwins 7 = .ok (.getfield 143, 3) := by decide +kernel
theorem dX1_writeTwins_10 : decode cX1_writeTwins 10 = .ok (.if_icmp .ge 60, 3) := by decide +kernel
theorem dX1_writeTwins_13 : decode cX1_writeTwins 13 = .ok (.aload_n 0, 1) := by decide +kernel
theorem dX1_writeTwins_14 : decode cX1_writeTwins 14 = .ok (.iload_n 2, 1) := by decide +kernel
theorem dX1_writeTwins_15 : decode cX1_writeTwins 15 = .ok (.invokevirtual 77, 3) := by decide +kernel
theorem dX1_writeTwins_18 : decode cX1_writeTwins 18 = .ok (.istore_n 3, 1) := by decide +kernel
theorem dX1_writeTwins_19 : decode cX1_writeTwins 19 = .ok (.iconst 0, 1) := by decide +kernel
theorem dX1_writeTwins_20 : decode cX1_writeTwins 20 = .ok (.istore 4, 2) := by decide +kernel
theorem dX1_writeTwins_22 : decode cX1_writeTwins 22 = .ok (.iload_n 3, 1) := by decide +kernel
theorem dX1_writeTwins_23 : decode cX1_writeTwins 23 = .ok (.ifCond .eq 41, 3) := by decide +kernel
theorem dX1_writeTwins_26 : decode cX1_writeTwins 26 = .ok (.iload 4, 2) := by decide +kernel
theorem dX1_writeTwins_28 : decode cX1_writeTwins 28 = .ok (.aload_n 0, 1) := by decide +kernel
theorem dX1_writeTwins_29 : decode cX1_writeTwins 29 = .ok (.getfield 9, 3) := by decide +kernel
theorem dX1_writeTwins_32 : decode cX1_writeTwins 32 = .ok (.getfield 143, 3) := by decide +kernel
theorem dX1_writeTwins_35 : decode cX1_writeTwins 35 = .ok (.if_icmp .ge 29, 3) := by decide +kernel
theorem dX1_writeTwins_38 : decode cX1_writeTwins 38 = .ok (.iload_n 3, 1) := by decide +kernel
theorem dX1_writeTwins_39 : decode cX1_writeTwins 39 = .ok (.iload 4, 2) := by decide +kernel
theorem dX1_writeTwins_41 : decode cX1_writeTwins 41 = .ok (.invokestatic 81, 3) := by decide +kernel
theorem dX1_writeTwins_44 : decode cX1_writeTwins 44 = .ok (.ifCond .eq 14, 3) := by decide +kernel
theorem dX1_writeTwins_47 : decode cX1_writeTwins 47 = .ok (.aload_n 1, 1) := by decide +kernel
theorem dX1_writeTwins_48 : decode cX1_writeTwins 48 = .ok (.bipush 6, 2) := by decide +kernel
theorem dX1_writeTwins_50 : decode cX1_writeTwins 50 = .ok (.iload_n 2, 1) := by decide +kernel
theorem dX1_writeTwins_51 : decode cX1_writeTwins 51 = .ok (.iload 4, 2) := by decide +kernel
theorem dX1_writeTwins_53 : decode cX1_writeTwins 53 = .ok (.invokevirtual 130, 3) := by decide +kernel
theorem dX1_writeTwins_56 : decode cX1_writeTwins 56 = .ok (.iconst 1, 1) := by decide +kernel
theorem dX1_writeTwins_57 : decode cX1_writeTwins 57 = .ok (.ireturn, 1) := by decide +kernel
theorem dX1_writeTwins_58 : decode cX1_writeTwins 58 = .ok (.iinc 4 1, 3) := by decide +kernel
theorem dX1_writeTwins_61 : decode cX1_writeTwins 61 = .ok (.goto (-39), 3) := by decide +kernel
theorem dX1_writeTwins_64 : decode cX1_writeTwins 64 = .ok (.iinc 2 1, 3) := by decide +kernel
theorem dX1_writeTwins_67 : decode cX1_writeTwins 67 = .ok (.goto (-65), 3) := by decide +kernel
theorem dX1_writeTwins_70 : decode cX1_writeTwins 70 = .ok (.iconst 0, 1) := by decide +kernel
theorem dX1_writeTwins_71 : decode cX1_writeTwins 71 = .ok (.ireturn, 1) := by decide +kernel
set_option maxRecDepth 20000 in
theorem ggX1_writeAlone_X2_isLive : GoodIn wsX1_writeAlone wsX2_isLive := goodIn_r _ [6, 7, 8, 9, 10, 5, 11, 12, 13, 14, 15, 60, 61, 62, 63, 64, 65, 66, 67, 68, 69, 70] (by decide +kernel) (by decide +kernel)
set_option maxRecDepth 20000 in
theorem gX1_writeAlone_X2_isLive : GoodIn wsX1_writeAlone (wsV RX1 64 RX2 yX2_isLive wsX2_isLive) := goodIn_app (goodIn_of _ (by decide +kernel)) ggX1_writeAlone_X2_isLive
set_option maxRecDepth 20000 in
theorem ggX1_writeAlone_X1_standsAlone : GoodIn wsX1_writeAlone wsX1_standsAlone := goodIn_r _ [20, 1, 21, 22, 23, 24, 5, 25, 7, 26, 27, 28, 29, 30, 31, 32, 33, 34, 35, 36, 37, 38, 39, 13, 14, 15, 40, 41, 42, 19, 43, 57, 58, 59, 71, 72, 73, 74, 75, 76, 60, 61, 62, 63, 64, 65, 66, 67, 68, 69, 70] (by decide +kernel) (by decide +kernel)
set_option maxRecDepth 20000 in
theorem gX1_writeAlone_X1_standsAlone : GoodIn wsX1_writeAlone (wsV RX1 84 RX1 yX1_standsAlone wsX1_standsAlone) := goodIn_app (goodIn_of _ (by decide +kernel)) ggX1_writeAlone_X1_standsAlone
set_option maxRecDepth 20000 in
theorem ggX1_writeAlone_X3_append : GoodIn wsX1_writeAlone wsX3_append := goodIn_r _ [48, 49, 50, 51, 52, 47, 53, 54, 55, 56, 77, 78, 79, 80] (by decide +kernel) (by decide +kernel)
set_option maxRecDepth 20000 in
theorem gX1_writeAlone_X3_append : GoodIn wsX1_writeAlone (wsV RX1 130 RX3 yX3_append wsX3_append) := goodIn_app (goodIn_of _ (by decide +kernel)) ggX1_writeAlone_X3_append
theorem dX1_writeAlone_0 : decode cX1_writeAlone 0 = .ok (.iconst 0, 1) := by decide +kernel
theorem dX1_writeAlone_1 : decode cX1_writeAlone 1 = .ok (.istore_n 3, 1) := by decide +kernel
theorem dX1_writeAlone_2 : decode cX1_writeAlone 2 = .ok (.iload_n 3, 1) := by decide +kernel
theorem dX1_writeAlone_3 : decode cX1_writeAlone 3 = .ok (.aload_n 0, 1) := by decide +kernel
theorem dX1_writeAlone_4 : decode cX1_writeAlone 4 = .ok (.getfield 9, 3) := by decide +kernel
theorem dX1_writeAlone_7 : decode cX1_writeAlone 7 = .ok (.getfield 143, 3) := by decide +kernel
theorem dX1_writeAlone_10 : decode cX1_writeAlone 10 = .ok (.if_icmp .ge 38, 3) := by decide +kernel
theorem dX1_writeAlone_13 : decode cX1_writeAlone 13 = .ok (.aload_n 0, 1) := by decide +kernel
theorem dX1_writeAlone_14 : decode cX1_writeAlone 14 = .ok (.getfield 9, 3) := by decide +kernel
theorem dX1_writeAlone_17 : decode cX1_writeAlone 17 = .ok (.iload_n 3, 1) := by decide +kernel
theorem dX1_writeAlone_18 : decode cX1_writeAlone 18 = .ok (.invokevirtual 64, 3) := by decide +kernel
theorem dX1_writeAlone_21 : decode cX1_writeAlone 21 = .ok (.ifCond .eq 21, 3) := by decide +kernel
theorem dX1_writeAlone_24 : decode cX1_writeAlone 24 = .ok (.aload_n 0, 1) := by decide +kernel
theorem dX1_writeAlone_25 : decode cX1_writeAlone 25 = .ok (.iload_n 2, 1) := by decide +kernel
theorem dX1_writeAlone_26 : decode cX1_writeAlone 26 = .ok (.iload_n 3, 1) := by decide +kernel
theorem dX1_writeAlone_27 : decode cX1_writeAlone 27 = .ok (.invokevirtual 84, 3) := by decide +kernel
theorem dX1_writeAlone_30 : decode cX1_writeAlone 30 = .ok (.ifCond .eq 12, 3) := by decide +kernel
theorem dX1_writeAlone_33 : decode cX1_writeAlone 33 = .ok (.aload_n 1, 1) := by decide +kernel
theorem dX1_writeAlone_34 : decode cX1_writeAlone 34 = .ok (.iload_n 2, 1) := by decide +kernel
theorem dX1_writeAlone_35 : decode cX1_writeAlone 35 = .ok (.iload_n 3, 1) := by decide +kernel
theorem dX1_writeAlone_36 : decode cX1_writeAlone 36 = .ok (.iconst 0, 1) := by decide +kernel
theorem dX1_writeAlone_37 : decode cX1_writeAlone 37 = .ok (.invokevirtual 130, 3) := by decide +kernel
theorem dX1_writeAlone_40 : decode cX1_writeAlone 40 = .ok (.iconst 1, 1) := by decide +kernel
theorem dX1_writeAlone_41 : decode cX1_writeAlone 41 = .ok (.ireturn, 1) := by decide +kernel
theorem dX1_writeAlone_42 : decode cX1_writeAlone 42 = .ok (.iinc 3 1, 3) := by decide +kernel
theorem dX1_writeAlone_45 : decode cX1_writeAlone 45 = .ok (.goto (-43), 3) := by decide +kernel
theorem dX1_writeAlone_48 : decode cX1_writeAlone 48 = .ok (.iconst 0, 1) := by decide +kernel
theorem dX1_writeAlone_49 : decode cX1_writeAlone 49 = .ok (.ireturn, 1) := by decide +kernel
theorem dX2_init_0 : decode cX2_init 0 = .ok (.aload_n 0, 1) := by decide +kernel
theorem dX2_init_1 : decode cX2_init 1 = .ok (.invokespecial 3, 3) := by decide +kernel
theorem dX2_init_4 : decode cX2_init 4 = .ok (.aload_n 0, 1) := by decide +kernel
theorem dX2_init_5 : decode cX2_init 5 = .ok (.bipush 12, 2) := by decide +kernel
theorem dX2_init_7 : decode cX2_init 7 = .ok (.newarray .int, 2) := by decide +kernel
theorem dX2_init_9 : decode cX2_init 9 = .ok (.putfield 9, 3) := by decide +kernel
theorem dX2_init_12 : decode cX2_init 12 = .ok (.aload_n 0, 1) := by decide +kernel
theorem dX2_init_13 : decode cX2_init 13 = .ok (.bipush 12, 2) := by decide +kernel
theorem dX2_init_15 : decode cX2_init 15 = .ok (.newarray .int, 2) := by decide +kernel
theorem dX2_init_17 : decode cX2_init 17 = .ok (.putfield 15, 3) := by decide +kernel
theorem dX2_init_20 : decode cX2_init 20 = .ok (.aload_n 0, 1) := by decide +kernel
theorem dX2_init_21 : decode cX2_init 21 = .ok (.bipush 12, 2) := by decide +kernel
theorem dX2_init_23 : decode cX2_init 23 = .ok (.newarray .int, 2) := by decide +kernel
theorem dX2_init_25 : decode cX2_init 25 = .ok (.putfield 18, 3) := by decide +kernel
theorem dX2_init_28 : decode cX2_init 28 = .ok (.aload_n 0, 1) := by decide +kernel
theorem dX2_init_29 : decode cX2_init 29 = .ok (.bipush 12, 2) := by decide +kernel
theorem dX2_init_31 : decode cX2_init 31 = .ok (.newarray .int, 2) := by decide +kernel
theorem dX2_init_33 : decode cX2_init 33 = .ok (.putfield 21, 3) := by decide +kernel
theorem dX2_init_36 : decode cX2_init 36 = .ok (.aload_n 0, 1) := by decide +kernel
theorem dX2_init_37 : decode cX2_init 37 = .ok (.bipush 12, 2) := by decide +kernel
theorem dX2_init_39 : decode cX2_init 39 = .ok (.newarray .int, 2) := by decide +kernel
theorem dX2_init_41 : decode cX2_init 41 = .ok (.putfield 24, 3) := by decide +kernel
theorem dX2_init_44 : decode cX2_init 44 = .ok (.aload_n 0, 1) := by decide +kernel
theorem dX2_init_45 : decode cX2_init 45 = .ok (.bipush 12, 2) := by decide +kernel
theorem dX2_init_47 : decode cX2_init 47 = .ok (.newarray .int, 2) := by decide +kernel
theorem dX2_init_49 : decode cX2_init 49 = .ok (.putfield 27, 3) := by decide +kernel
theorem dX2_init_52 : decode cX2_init 52 = .ok (.aload_n 0, 1) := by decide +kernel
theorem dX2_init_53 : decode cX2_init 53 = .ok (.bipush 12, 2) := by decide +kernel
theorem dX2_init_55 : decode cX2_init 55 = .ok (.bipush 12, 2) := by decide +kernel
theorem dX2_init_57 : decode cX2_init 57 = .ok (.multianewarray 30 2, 4) := by decide +kernel
theorem dX2_init_61 : decode cX2_init 61 = .ok (.putfield 32, 3) := by decide +kernel
theorem dX2_init_64 : decode cX2_init 64 = .ok (.aload_n 0, 1) := by decide +kernel
theorem dX2_init_65 : decode cX2_init 65 = .ok (.iconst 0, 1) := by decide +kernel
theorem dX2_init_66 : decode cX2_init 66 = .ok (.putfield 35, 3) := by decide +kernel
theorem dX2_init_69 : decode cX2_init 69 = .ok (.aload_n 0, 1) := by decide +kernel
theorem dX2_init_70 : decode cX2_init 70 = .ok (.iconst 0, 1) := by decide +kernel
theorem dX2_init_71 : decode cX2_init 71 = .ok (.putfield 39, 3) := by decide +kernel
theorem dX2_init_74 : decode cX2_init 74 = .ok (.aload_n 0, 1) := by decide +kernel
theorem dX2_init_75 : decode cX2_init 75 = .ok (.iconst 0, 1) := by decide +kernel
theorem dX2_init_76 : decode cX2_init 76 = .ok (.putfield 42, 3) := by decide +kernel
theorem dX2_init_79 : decode cX2_init 79 = .ok (.aload_n 0, 1) := by decide +kernel
theorem dX2_init_80 : decode cX2_init 80 = .ok (.aload_n 1, 1) := by decide +kernel
theorem dX2_init_81 : decode cX2_init 81 = .ok (.putfield 46, 3) := by decide +kernel
theorem dX2_init_84 : decode cX2_init 84 = .ok (.return_, 1) := by decide +kernel
theorem dX2_isLamp_0 : decode cX2_isLamp 0 = .ok (.iload_n 1, 1) := by decide +kernel
theorem dX2_isLamp_1 : decode cX2_isLamp 1 = .ok (.ifCond .lt 15, 3) := by decide +kernel
theorem dX2_isLamp_4 : decode cX2_isLamp 4 = .ok (.iload_n 1, 1) := by decide +kernel
theorem dX2_isLamp_5 : decode cX2_isLamp 5 = .ok (.aload_n 0, 1) := by decide +kernel
theorem dX2_isLamp_6 : decode cX2_isLamp 6 = .ok (.getfield 39, 3) := by decide +kernel
theorem dX2_isLamp_9 : decode cX2_isLamp 9 = .ok (.if_icmp .ge 7, 3) := by decide +kernel
theorem dX2_isLamp_12 : decode cX2_isLamp 12 = .ok (.iconst 1, 1) := by decide +kernel
theorem dX2_isLamp_13 : decode cX2_isLamp 13 = .ok (.goto 4, 3) := by decide +kernel
theorem dX2_isLamp_16 : decode cX2_isLamp 16 = .ok (.iconst 0, 1) := by decide +kernel
theorem dX2_isLamp_17 : decode cX2_isLamp 17 = .ok (.ireturn, 1) := by decide +kernel
set_option maxRecDepth 20000 in
theorem ggX2_isLive_X2_isLamp : GoodIn wsX2_isLive wsX2_isLamp := goodIn_r _ [6, 7, 11, 12, 13, 14, 15, 16, 17, 18, 19, 20, 21] (by decide +kernel) (by decide +kernel)
set_option maxRecDepth 20000 in
theorem gX2_isLive_X2_isLamp : GoodIn wsX2_isLive (wsV RX2 50 RX2 yX2_isLamp wsX2_isLamp) := goodIn_app (goodIn_of _ (by decide +kernel)) ggX2_isLive_X2_isLamp
set_option maxRecDepth 20000 in
theorem ggX2_isLive_X9_isIn : GoodIn wsX2_isLive wsX9_isIn := goodIn_r _ [10] (by decide +kernel) (by decide +kernel)
set_option maxRecDepth 20000 in
theorem gX2_isLive_X9_isIn_n54 : GoodIn wsX2_isLive (wsX9_isIn) := ggX2_isLive_X9_isIn
theorem dX2_isLive_0 : decode cX2_isLive 0 = .ok (.aload_n 0, 1) := by decide +kernel
theorem dX2_isLive_1 : decode cX2_isLive 1 = .ok (.iload_n 1, 1) := by decide +kernel
theorem dX2_isLive_2 : decode cX2_isLive 2 = .ok (.invokevirtual 50, 3) := by decide +kernel
theorem dX2_isLive_5 : decode cX2_isLive 5 = .ok (.ifCond .eq 18, 3) := by decide +kernel
theorem dX2_isLive_8 : decode cX2_isLive 8 = .ok (.aload_n 0, 1) := by decide +kernel
theorem dX2_isLive_9 : decode cX2_isLive 9 = .ok (.getfield 35, 3) := by decide +kernel
theorem dX2_isLive_12 : decode cX2_isLive 12 = .ok (.iload_n 1, 1) := by decide +kernel
theorem dX2_isLive_13 : decode cX2_isLive 13 = .ok (.invokestatic 54, 3) := by decide +kernel
theorem dX2_isLive_16 : decode cX2_isLive 16 = .ok (.ifCond .eq 7, 3) := by decide +kernel
theorem dX2_isLive_19 : decode cX2_isLive 19 = .ok (.iconst 1, 1) := by decide +kernel
theorem dX2_isLive_20 : decode cX2_isLive 20 = .ok (.goto 4, 3) := by decide +kernel
theorem dX2_isLive_23 : decode cX2_isLive 23 = .ok (.iconst 0, 1) := by decide +kernel
theorem dX2_isLive_24 : decode cX2_isLive 24 = .ok (.ireturn, 1) := by decide +kernel
set_option maxRecDepth 20000 in
theorem ggX2_liveCount_J6_bitCount_0f7a4 : GoodIn wsX2_liveCount wsJ6_bitCount_0f7a4 := goodIn_r _ [5, 6, 7, 8] (by decide +kernel) (by decide +kernel)
set_option maxRecDepth 20000 in
theorem gX2_liveCount_J6_bitCount_0f7a4 : GoodIn wsX2_liveCount (va_wsS RX2 58 yJ6_bitCount_0f7a4 wsJ6_bitCount_0f7a4) := goodIn_app (goodIn_of _ (by decide +kernel)) ggX2_liveCount_J6_bitCount_0f7a4
theorem dX2_liveCount_0 : decode cX2_liveCount 0 = .ok (.aload_n 0, 1) := by decide +kernel
theorem dX2_liveCount_1 : decode cX2_liveCount 1 = .ok (.getfield 35, 3) := by decide +kernel
theorem dX2_liveCount_4 : decode cX2_liveCount 4 = .ok (.invokestatic 58, 3) := by decide +kernel
theorem dX2_liveCount_7 : decode cX2_liveCount 7 = .ok (.ireturn, 1) := by decide +kernel
set_option maxRecDepth 20000 in
theorem ggX2_firstLive_X9_isIn : GoodIn wsX2_firstLive wsX9_isIn := goodIn_r _ [5] (by decide +kernel) (by decide +kernel)
set_option maxRecDepth 20000 in
theorem gX2_firstLive_X9_isIn_n54 : GoodIn wsX2_firstLive (wsX9_isIn) := ggX2_firstLive_X9_isIn
theorem dX2_firstLive_0 : decode cX2_firstLive 0 = .ok (.iconst 0, 1) := by decide +kernel
theorem dX2_firstLive_1 : decode cX2_firstLive 1 = .ok (.istore_n 1, 1) := by decide +kernel
theorem dX2_firstLive_2 : decode cX2_firstLive 2 = .ok (.iload_n 1, 1) := by decide +kernel
theorem dX2_firstLive_3 : decode cX2_firstLive 3 = .ok (.aload_n 0, 1) := by decide +kernel
theorem dX2_firstLive_4 : decode cX2_firstLive 4 = .ok (.getfield 39, 3) := by decide +kernel
theorem dX2_firstLive_7 : decode cX2_firstLive 7 = .ok (.if_icmp .ge 22, 3) := by decide +kernel
theorem dX2_firstLive_10 : decode cX2_firstLive 10 = .ok (.aload_n 0, 1) := by decide +kernel
theorem dX2_firstLive_11 : decode cX2_firstLive 11 = .ok (.getfield 35, 3) := by decide +kernel
theorem dX2_firstLive_14 : decode cX2_firstLive 14 = .ok (.iload_n 1, 1) := by decide +kernel
theorem dX2_firstLive_15 : decode cX2_firstLive 15 = .ok (.invokestatic 54, 3) := by decide +kernel
theorem dX2_firstLive_18 : decode cX2_firstLive 18 = .ok (.ifCond .eq 5, 3) := by decide +kernel
theorem dX2_firstLive_21 : decode cX2_firstLive 21 = .ok (.iload_n 1, 1) := by decide +kernel
theorem dX2_firstLive_22 : decode cX2_firstLive 22 = .ok (.ireturn, 1) := by decide +kernel
theorem dX2_firstLive_23 : decode cX2_firstLive 23 = .ok (.iinc 1 1, 3) := by decide +kernel
theorem dX2_firstLive_26 : decode cX2_firstLive 26 = .ok (.goto (-24), 3) := by decide +kernel
theorem dX2_firstLive_29 : decode cX2_firstLive 29 = .ok (.iconst (-1), 1) := by decide +kernel
theorem dX2_firstLive_30 : decode cX2_firstLive 30 = .ok (.ireturn, 1) := by decide +kernel
theorem dX2_worthOf_0 : decode cX2_worthOf 0 = .ok (.aload_n 0, 1) := by decide +kernel
theorem dX2_worthOf_1 : decode cX2_worthOf 1 = .ok (.getfield 15, 3) := by decide +kernel
theorem dX2_worthOf_4 : decode cX2_worthOf 4 = .ok (.iload_n 1, 1) := by decide +kernel
theorem dX2_worthOf_5 : decode cX2_worthOf 5 = .ok (.iaload, 1) := by decide +kernel
theorem dX2_worthOf_6 : decode cX2_worthOf 6 = .ok (.iconst 4, 1) := by decide +kernel
theorem dX2_worthOf_7 : decode cX2_worthOf 7 = .ok (.if_icmp .ne 7, 3) := by decide +kernel
theorem dX2_worthOf_10 : decode cX2_worthOf 10 = .ok (.iconst 2, 1) := by decide +kernel
theorem dX2_worthOf_11 : decode cX2_worthOf 11 = .ok (.goto 4, 3) := by decide +kernel
theorem dX2_worthOf_14 : decode cX2_worthOf 14 = .ok (.iconst 1, 1) := by decide +kernel
theorem dX2_worthOf_15 : decode cX2_worthOf 15 = .ok (.ireturn, 1) := by decide +kernel
set_option maxRecDepth 20000 in
theorem ggX2_worthOfLive_X9_isIn : GoodIn wsX2_worthOfLive wsX9_isIn := goodIn_r _ [5] (by decide +kernel) (by decide +kernel)
set_option maxRecDepth 20000 in
theorem gX2_worthOfLive_X9_isIn_n54 : GoodIn wsX2_worthOfLive (wsX9_isIn) := ggX2_worthOfLive_X9_isIn
set_option maxRecDepth 20000 in
theorem ggX2_worthOfLive_X2_worthOf : GoodIn wsX2_worthOfLive wsX2_worthOf := goodIn_r _ [10, 11, 12, 13, 14, 15, 16, 17, 18, 19, 20, 21, 22] (by decide +kernel) (by decide +kernel)
set_option maxRecDepth 20000 in
theorem gX2_worthOfLive_X2_worthOf : GoodIn wsX2_worthOfLive (wsV RX2 64 RX2 yX2_worthOf wsX2_worthOf) := goodIn_app (goodIn_of _ (by decide +kernel)) ggX2_worthOfLive_X2_worthOf
theorem dX2_worthOfLive_0 : decode cX2_worthOfLive 0 = .ok (.iconst 0, 1) := by decide +kernel
theorem dX2_worthOfLive_1 : decode cX2_worthOfLive 1 = .ok (.istore_n 1, 1) := by decide +kernel
theorem dX2_worthOfLive_2 : decode cX2_worthOfLive 2 = .ok (.iconst 0, 1) := by decide +kernel
theorem dX2_worthOfLive_3 : decode cX2_worthOfLive 3 = .ok (.istore_n 2, 1) := by decide +kernel
theorem dX2_worthOfLive_4 : decode cX2_worthOfLive 4 = .ok (.iload_n 2, 1) := by decide +kernel
theorem dX2_worthOfLive_5 : decode cX2_worthOfLive 5 = .ok (.aload_n 0, 1) := by decide +kernel
theorem dX2_worthOfLive_6 : decode cX2_worthOfLive 6 = .ok (.getfield 39, 3) := by decide +kernel
theorem dX2_worthOfLive_9 : decode cX2_worthOfLive 9 = .ok (.if_icmp .ge 28, 3) := by decide +kernel
theorem dX2_worthOfLive_12 : decode cX2_worthOfLive 12 = .ok (.aload_n 0, 1) := by decide +kernel
theorem dX2_worthOfLive_13 : decode cX2_worthOfLive 13 = .ok (.getfield 35, 3) := by decide +kernel
theorem dX2_worthOfLive_16 : decode cX2_worthOfLive 16 = .ok (.iload_n 2, 1) := by decide +kernel
theorem dX2_worthOfLive_17 : decode cX2_worthOfLive 17 = .ok (.invokestatic 54, 3) := by decide +kernel
theorem dX2_worthOfLive_20 : decode cX2_worthOfLive 20 = .ok (.ifCond .eq 11, 3) := by decide +kernel
theorem dX2_worthOfLive_23 : decode cX2_worthOfLive 23 = .ok (.iload_n 1, 1) := by decide +kernel
theorem dX2_worthOfLive_24 : decode cX2_worthOfLive 24 = .ok (.aload_n 0, 1) := by decide +kernel
theorem dX2_worthOfLive_25 : decode cX2_worthOfLive 25 = .ok (.iload_n 2, 1) := by decide +kernel
theorem dX2_worthOfLive_26 : decode cX2_worthOfLive 26 = .ok (.invokevirtual 64, 3) := by decide +kernel
theorem dX2_worthOfLive_29 : decode cX2_worthOfLive 29 = .ok (.iadd, 1) := by decide +kernel
theorem dX2_worthOfLive_30 : decode cX2_worthOfLive 30 = .ok (.istore_n 1, 1) := by decide +kernel
theorem dX2_worthOfLive_31 : decode cX2_worthOfLive 31 = .ok (.iinc 2 1, 3) := by decide +kernel
theorem dX2_worthOfLive_34 : decode cX2_worthOfLive 34 = .ok (.goto (-30), 3) := by decide +kernel
theorem dX2_worthOfLive_37 : decode cX2_worthOfLive 37 = .ok (.iload_n 1, 1) := by decide +kernel
theorem dX2_worthOfLive_38 : decode cX2_worthOfLive 38 = .ok (.ireturn, 1) := by decide +kernel
theorem dX2_standsAt_0 : decode cX2_standsAt 0 = .ok (.iconst 0, 1) := by decide +kernel
theorem dX2_standsAt_1 : decode cX2_standsAt 1 = .ok (.istore_n 2, 1) := by decide +kernel
theorem dX2_standsAt_2 : decode cX2_standsAt 2 = .ok (.iload_n 2, 1) := by decide +kernel
theorem dX2_standsAt_3 : decode cX2_standsAt 3 = .ok (.aload_n 0, 1) := by decide +kernel
theorem dX2_standsAt_4 : decode cX2_standsAt 4 = .ok (.getfield 39, 3) := by decide +kernel
theorem dX2_standsAt_7 : decode cX2_standsAt 7 = .ok (.if_icmp .ge 21, 3) := by decide +kernel
theorem dX2_standsAt_10 : decode cX2_standsAt 10 = .ok (.aload_n 0, 1) := by decide +kernel
theorem dX2_standsAt_11 : decode cX2_standsAt 11 = .ok (.getfield 9, 3) := by decide +kernel
theorem dX2_standsAt_14 : decode cX2_standsAt 14 = .ok (.iload_n 2, 1) := by decide +kernel
theorem dX2_standsAt_15 : decode cX2_standsAt 15 = .ok (.iaload, 1) := by decide +kernel
theorem dX2_standsAt_16 : decode cX2_standsAt 16 = .ok (.iload_n 1, 1) := by decide +kernel
theorem dX2_standsAt_17 : decode cX2_standsAt 17 = .ok (.if_icmp .ne 5, 3) := by decide +kernel
theorem dX2_standsAt_20 : decode cX2_standsAt 20 = .ok (.iconst 1, 1) := by decide +kernel
theorem dX2_standsAt_21 : decode cX2_standsAt 21 = .ok (.ireturn, 1) := by decide +kernel
theorem dX2_standsAt_22 : decode cX2_standsAt 22 = .ok (.iinc 2 1, 3) := by decide +kernel
theorem dX2_standsAt_25 : decode cX2_standsAt 25 = .ok (.goto (-23), 3) := by decide +kernel
theorem dX2_standsAt_28 : decode cX2_standsAt 28 = .ok (.iconst 0, 1) := by decide +kernel
theorem dX2_standsAt_29 : decode cX2_standsAt 29 = .ok (.ireturn, 1) := by decide +kernel
theorem dX2_raise_0 : decode cX2_raise 0 = .ok (.aload_n 0, 1) := by decide +kernel
theorem dX2_raise_1 : decode cX2_raise 1 = .ok (.getfield 39, 3) := by decide +kernel
theorem dX2_raise_4 : decode cX2_raise 4 = .ok (.istore 4, 2) := by decide +kernel
theorem dX2_raise_6 : decode cX2_raise 6 = .ok (.aload_n 0, 1) := by decide +kernel
theorem dX2_raise_7 : decode cX2_raise 7 = .ok (.getfield 9, 3) := by decide +kernel
theorem dX2_raise_10 : decode cX2_raise 10 = .ok (.iload 4, 2) := by decide +kernel
theorem dX2_raise_12 : decode cX2_raise 12 = .ok (.iload_n 1, 1) := by decide +kernel
theorem dX2_raise_13 : decode cX2_raise 13 = .ok (.iastore, 1) := by decide +kernel
theorem dX2_raise_14 : decode cX2_raise 14 = .ok (.aload_n 0, 1) := by decide +kernel
theorem dX2_raise_15 : decode cX2_raise 15 = .ok (.getfield 15, 3) := by decide +kernel
theorem dX2_raise_18 : decode cX2_raise 18 = .ok (.iload 4, 2) := by decide +kernel
theorem dX2_raise_20 : decode cX2_raise 20 = .ok (.iload_n 2, 1) := by decide +kernel
theorem dX2_raise_21 : decode cX2_raise 21 = .ok (.iastore, 1) := by decide +kernel
theorem dX2_raise_22 : decode cX2_raise 22 = .ok (.aload_n 0, 1) := by decide +kernel
theorem dX2_raise_23 : decode cX2_raise 23 = .ok (.getfield 18, 3) := by decide +kernel
theorem dX2_raise_26 : decode cX2_raise 26 = .ok (.iload 4, 2) := by decide +kernel
theorem dX2_raise_28 : decode cX2_raise 28 = .ok (.iload_n 3, 1) := by decide +kernel
theorem dX2_raise_29 : decode cX2_raise 29 = .ok (.iastore, 1) := by decide +kernel
theorem dX2_raise_30 : decode cX2_raise 30 = .ok (.aload_n 0, 1) := by decide +kernel
theorem dX2_raise_31 : decode cX2_raise 31 = .ok (.dup, 1) := by decide +kernel
theorem dX2_raise_32 : decode cX2_raise 32 = .ok (.getfield 35, 3) := by decide +kernel
theorem dX2_raise_35 : decode cX2_raise 35 = .ok (.iconst 1, 1) := by decide +kernel
theorem dX2_raise_36 : decode cX2_raise 36 = .ok (.iload 4, 2) := by decide +kernel
theorem dX2_raise_38 : decode cX2_raise 38 = .ok (.ishl, 1) := by decide +kernel
theorem dX2_raise_39 : decode cX2_raise 39 = .ok (.ior, 1) := by decide +kernel
theorem dX2_raise_40 : decode cX2_raise 40 = .ok (.putfield 35, 3) := by decide +kernel
theorem dX2_raise_43 : decode cX2_raise 43 = .ok (.aload_n 0, 1) := by decide +kernel
theorem dX2_raise_44 : decode cX2_raise 44 = .ok (.dup, 1) := by decide +kernel
theorem dX2_raise_45 : decode cX2_raise 45 = .ok (.getfield 39, 3) := by decide +kernel
theorem dX2_raise_48 : decode cX2_raise 48 = .ok (.iconst 1, 1) := by decide +kernel
theorem dX2_raise_49 : decode cX2_raise 49 = .ok (.iadd, 1) := by decide +kernel
theorem dX2_raise_50 : decode cX2_raise 50 = .ok (.putfield 39, 3) := by decide +kernel
theorem dX2_raise_53 : decode cX2_raise 53 = .ok (.iload 4, 2) := by decide +kernel
theorem dX2_raise_55 : decode cX2_raise 55 = .ok (.ireturn, 1) := by decide +kernel
theorem dX2_flip_0 : decode cX2_flip 0 = .ok (.aload_n 0, 1) := by decide +kernel
theorem dX2_flip_1 : decode cX2_flip 1 = .ok (.dup, 1) := by decide +kernel
theorem dX2_flip_2 : decode cX2_flip 2 = .ok (.getfield 35, 3) := by decide +kernel
theorem dX2_flip_5 : decode cX2_flip 5 = .ok (.iconst 1, 1) := by decide +kernel
theorem dX2_flip_6 : decode cX2_flip 6 = .ok (.iload_n 1, 1) := by decide +kernel
theorem dX2_flip_7 : decode cX2_flip 7 = .ok (.ishl, 1) := by decide +kernel
theorem dX2_flip_8 : decode cX2_flip 8 = .ok (.ixor, 1) := by decide +kernel
theorem dX2_flip_9 : decode cX2_flip 9 = .ok (.putfield 35, 3) := by decide +kernel
theorem dX2_flip_12 : decode cX2_flip 12 = .ok (.return_, 1) := by decide +kernel
set_option maxRecDepth 20000 in
theorem ggX2_survey_X7_waysFrom : GoodIn wsX2_survey wsX7_waysFrom := goodIn_r _ [12, 13, 14, 15, 16, 17, 11, 18, 19, 20, 21, 22, 23, 24, 25, 26, 27, 28, 29, 30, 31, 32, 73, 74, 75, 76, 77, 78, 79] (by decide +kernel) (by decide +kernel)
set_option maxRecDepth 20000 in
theorem gX2_survey_X7_waysFrom : GoodIn wsX2_survey (wsV RX2 67 RX7 yX7_waysFrom wsX7_waysFrom) := goodIn_app (goodIn_of _ (by decide +kernel)) ggX2_survey_X7_waysFrom
set_option maxRecDepth 20000 in
theorem ggX2_survey_J7_fill_53178 : GoodIn wsX2_survey wsJ7_fill_53178 := goodIn_r _ [25] (by decide +kernel) (by decide +kernel)
set_option maxRecDepth 20000 in
theorem gX2_survey_J7_fill_53178 : GoodIn wsX2_survey (va_wsS RX2 73 yJ7_fill_53178 wsJ7_fill_53178) := goodIn_app (goodIn_of _ (by decide +kernel)) ggX2_survey_J7_fill_53178
set_option maxRecDepth 20000 in
theorem ggX2_survey_X2_twinOf : GoodIn wsX2_survey wsX2_twinOf := goodIn_r _ [38, 39, 40, 41, 42, 43, 37, 44, 45, 2, 5, 62, 63, 64, 65, 66, 67, 68, 69, 70, 71, 72] (by decide +kernel) (by decide +kernel)
set_option maxRecDepth 20000 in
theorem gX2_survey_X2_twinOf : GoodIn wsX2_survey (wsV RX2 79 RX2 yX2_twinOf wsX2_twinOf) := goodIn_app (goodIn_of _ (by decide +kernel)) ggX2_survey_X2_twinOf
set_option maxRecDepth 20000 in
theorem ggX2_survey_X2_tieTwins : GoodIn wsX2_survey wsX2_tieTwins := goodIn_r _ [49, 6, 50, 51, 52, 37, 53, 54, 55, 56, 57, 58, 2, 59, 60, 61, 62, 63, 64, 65, 66, 67, 68, 69, 70, 71, 72] (by decide +kernel) (by decide +kernel)
set_option maxRecDepth 20000 in
theorem gX2_survey_X2_tieTwins : GoodIn wsX2_survey (wsV RX2 82 RX2 yX2_tieTwins wsX2_tieTwins) := goodIn_app (goodIn_of _ (by decide +kernel)) ggX2_survey_X2_tieTwins
theorem dX2_survey_0 : decode cX2_survey 0 = .ok (.aload_n 0, 1) := by decide +kernel
theorem dX2_survey_1 : decode cX2_survey 1 = .ok (.getfield 42, 3) := by decide +kernel
theorem dX2_survey_4 : decode cX2_survey 4 = .ok (.ifCond .eq 4, 3) := by decide +kernel
theorem dX2_survey_7 : decode cX2_survey 7 = .ok (.return_, 1) := by decide +kernel
theorem dX2_survey_8 : decode cX2_survey 8 = .ok (.iconst 0, 1) := by decide +kernel
theorem dX2_survey_9 : decode cX2_survey 9 = .ok (.istore_n 1, 1) := by decide +kernel
theorem dX2_survey_10 : decode cX2_survey 10 = .ok (.iload_n 1, 1) := by decide +kernel
theorem dX2_survey_11 : decode cX2_survey 11 = .ok (.aload_n 0, 1) := by decide +kernel
theorem dX2_survey_12 : decode cX2_survey 12 = .ok (.getfield 39, 3) := by decide +kernel
theorem dX2_survey_15 : decode cX2_survey 15 = .ok (.if_icmp .ge 55, 3) := by decide +kernel
theorem dX2_survey_18 : decode cX2_survey 18 = .ok (.aload_n 0, 1) := by decide +kernel
theorem dX2_survey_19 : decode cX2_survey 19 = .ok (.getfield 46, 3) := by decide +kernel
theorem dX2_survey_22 : decode cX2_survey 22 = .ok (.aload_n 0, 1) := by decide +kernel
theorem dX2_survey_23 : decode cX2_survey 23 = .ok (.getfield 9, 3) := by decide +kernel
theorem dX2_survey_26 : decode cX2_survey 26 = .ok (.iload_n 1, 1) := by decide +kernel
theorem dX2_survey_27 : decode cX2_survey 27 = .ok (.iaload, 1) := by decide +kernel
theorem dX2_survey_28 : decode cX2_survey 28 = .ok (.invokevirtual 67, 3) := by decide +kernel
theorem dX2_survey_31 : decode cX2_survey 31 = .ok (.astore_n 2, 1) := by decide +kernel
theorem dX2_survey_32 : decode cX2_survey 32 = .ok (.iconst 0, 1) := by decide +kernel
theorem dX2_survey_33 : decode cX2_survey 33 = .ok (.istore_n 3, 1) := by decide +kernel
theorem dX2_survey_34 : decode cX2_survey 34 = .ok (.iload_n 3, 1) := by decide +kernel
theorem dX2_survey_35 : decode cX2_survey 35 = .ok (.aload_n 0, 1) := by decide +kernel
theorem dX2_survey_36 : decode cX2_survey 36 = .ok (.getfield 39, 3) := by decide +kernel
theorem dX2_survey_39 : decode cX2_survey 39 = .ok (.if_icmp .ge 25, 3) := by decide +kernel
theorem dX2_survey_42 : decode cX2_survey 42 = .ok (.aload_n 0, 1) := by decide +kernel
theorem dX2_survey_43 : decode cX2_survey 43 = .ok (.getfield 32, 3) := by decide +kernel
theorem dX2_survey_46 : decode cX2_survey 46 = .ok (.iload_n 1, 1) := by decide +kernel
theorem dX2_survey_47 : decode cX2_survey 47 = .ok (.aaload, 1) := by decide +kernel
theorem dX2_survey_48 : decode cX2_survey 48 = .ok (.iload_n 3, 1) := by decide +kernel
theorem dX2_survey_49 : decode cX2_survey 49 = .ok (.aload_n 2, 1) := by decide +kernel
theorem dX2_survey_50 : decode cX2_survey 50 = .ok (.aload_n 0, 1) := by decide +kernel
theorem dX2_survey_51 : decode cX2_survey 51 = .ok (.getfield 9, 3) := by decide +kernel
theorem dX2_survey_54 : decode cX2_survey 54 = .ok (.iload_n 3, 1) := by decide +kernel
theorem dX2_survey_55 : decode cX2_survey 55 = .ok (.iaload, 1) := by decide +kernel
theorem dX2_survey_56 : decode cX2_survey 56 = .ok (.iaload, 1) := by decide +kernel
theorem dX2_survey_57 : decode cX2_survey 57 = .ok (.iastore, 1) := by decide +kernel
theorem dX2_survey_58 : decode cX2_survey 58 = .ok (.iinc 3 1, 3) := by decide +kernel
theorem dX2_survey_61 : decode cX2_survey 61 = .ok (.goto (-27), 3) := by decide +kernel
theorem dX2_survey_64 : decode cX2_survey 64 = .ok (.iinc 1 1, 3) := by decide +kernel
theorem dX2_survey_67 : decode cX2_survey 67 = .ok (.goto (-57), 3) := by decide +kernel
theorem dX2_survey_70 : decode cX2_survey 70 = .ok (.aload_n 0, 1) := by decide +kernel
theorem dX2_survey_71 : decode cX2_survey 71 = .ok (.getfield 27, 3) := by decide +kernel
theorem dX2_survey_74 : decode cX2_survey 74 = .ok (.iconst 0, 1) := by decide +kernel
theorem dX2_survey_75 : decode cX2_survey 75 = .ok (.invokestatic 73, 3) := by decide +kernel
theorem dX2_survey_78 : decode cX2_survey 78 = .ok (.iconst 0, 1) := by decide +kernel
theorem dX2_survey_79 : decode cX2_survey 79 = .ok (.istore_n 1, 1) := by decide +kernel
theorem dX2_survey_80 : decode cX2_survey 80 = .ok (.iload_n 1, 1) := by decide +kernel
theorem dX2_survey_81 : decode cX2_survey 81 = .ok (.aload_n 0, 1) := by decide +kernel
theorem dX2_survey_82 : decode cX2_survey 82 = .ok (.getfield 39, 3) := by decide +kernel
theorem dX2_survey_85 : decode cX2_survey 85 = .ok (.if_icmp .ge 31, 3) := by decide +kernel
theorem dX2_survey_88 : decode cX2_survey 88 = .ok (.aload_n 0, 1) := by decide +kernel
theorem dX2_survey_89 : decode cX2_survey 89 = .ok (.getfield 24, 3) := by decide +kernel
theorem dX2_survey_92 : decode cX2_survey 92 = .ok (.iload_n 1, 1) := by decide +kernel
theorem dX2_survey_93 : decode cX2_survey 93 = .ok (.aload_n 0, 1) := by decide +kernel
theorem dX2_survey_94 : decode cX2_survey 94 = .ok (.iload_n 1, 1) := by decide +kernel
theorem dX2_survey_95 : decode cX2_survey 95 = .ok (.invokevirtual 79, 3) := by decide +kernel
theorem dX2_survey_98 : decode cX2_survey 98 = .ok (.iastore, 1) := by decide +kernel
theorem dX2_survey_99 : decode cX2_survey 99 = .ok (.aload_n 0, 1) := by decide +kernel
theorem dX2_survey_100 : decode cX2_survey 100 = .ok (.iload_n 1, 1) := by decide +kernel
theorem dX2_survey_101 : decode cX2_survey 101 = .ok (.aload_n 0, 1) := by decide +kernel
theorem dX2_survey_102 : decode cX2_survey 102 = .ok (.getfield 24, 3) := by decide +kernel
theorem dX2_survey_105 : decode cX2_survey 105 = .ok (.iload_n 1, 1) := by decide +kernel
theorem dX2_survey_106 : decode cX2_survey 106 = .ok (.iaload, 1) := by decide +kernel
theorem dX2_survey_107 : decode cX2_survey 107 = .ok (.invokevirtual 82, 3) := by decide +kernel
theorem dX2_survey_110 : decode cX2_survey 110 = .ok (.iinc 1 1, 3) := by decide +kernel
theorem dX2_survey_113 : decode cX2_survey 113 = .ok (.goto (-33), 3) := by decide +kernel
theorem dX2_survey_116 : decode cX2_survey 116 = .ok (.aload_n 0, 1) := by decide +kernel
theorem dX2_survey_117 : decode cX2_survey 117 = .ok (.iconst 1, 1) := by decide +kernel
theorem dX2_survey_118 : decode cX2_survey 118 = .ok (.putfield 42, 3) := by decide +kernel
theorem dX2_survey_121 : decode cX2_survey 121 = .ok (.return_, 1) := by decide +kernel
set_option maxRecDepth 20000 in
theorem ggX2_twinOf_X2_nearest : GoodIn wsX2_twinOf wsX2_nearest := goodIn_r _ [7, 8, 9, 10, 11, 12, 13, 14, 15, 16, 17, 18, 19, 20, 21] (by decide +kernel) (by decide +kernel)
set_option maxRecDepth 20000 in
theorem gX2_twinOf_X2_nearest : GoodIn wsX2_twinOf (wsV RX2 86 RX2 yX2_nearest wsX2_nearest) := goodIn_app (goodIn_of _ (by decide +kernel)) ggX2_twinOf_X2_nearest
theorem dX2_twinOf_0 : decode cX2_twinOf 0 = .ok (.aload_n 0, 1) := by decide +kernel
theorem dX2_twinOf_1 : decode cX2_twinOf 1 = .ok (.getfield 15, 3) := by decide +kernel
theorem dX2_twinOf_4 : decode cX2_twinOf 4 = .ok (.iload_n 1, 1) := by decide +kernel
theorem dX2_twinOf_5 : decode cX2_twinOf 5 = .ok (.iaload, 1) := by decide +kernel
theorem dX2_twinOf_6 : decode cX2_twinOf 6 = .ok (.iconst 1, 1) := by decide +kernel
theorem dX2_twinOf_7 : decode cX2_twinOf 7 = .ok (.if_icmp .ne 10, 3) := by decide +kernel
theorem dX2_twinOf_10 : decode cX2_twinOf 10 = .ok (.aload_n 0, 1) := by decide +kernel
theorem dX2_twinOf_11 : decode cX2_twinOf 11 = .ok (.getfield 18, 3) := by decide +kernel
theorem dX2_twinOf_14 : decode cX2_twinOf 14 = .ok (.iload_n 1, 1) := by decide +kernel
theorem dX2_twinOf_15 : decode cX2_twinOf 15 = .ok (.iaload, 1) := by decide +kernel
theorem dX2_twinOf_16 : decode cX2_twinOf 16 = .ok (.ireturn, 1) := by decide +kernel
theorem dX2_twinOf_17 : decode cX2_twinOf 17 = .ok (.aload_n 0, 1) := by decide +kernel
theorem dX2_twinOf_18 : decode cX2_twinOf 18 = .ok (.getfield 15, 3) := by decide +kernel
theorem dX2_twinOf_21 : decode cX2_twinOf 21 = .ok (.iload_n 1, 1) := by decide +kernel
theorem dX2_twinOf_22 : decode cX2_twinOf 22 = .ok (.iaload, 1) := by decide +kernel
theorem dX2_twinOf_23 : decode cX2_twinOf 23 = .ok (.iconst 2, 1) := by decide +kernel
theorem dX2_twinOf_24 : decode cX2_twinOf 24 = .ok (.if_icmp .ne 11, 3) := by decide +kernel
theorem dX2_twinOf_27 : decode cX2_twinOf 27 = .ok (.aload_n 0, 1) := by decide +kernel
theorem dX2_twinOf_28 : decode cX2_twinOf 28 = .ok (.iload_n 1, 1) := by decide +kernel
theorem dX2_twinOf_29 : decode cX2_twinOf 29 = .ok (.invokevirtual 86, 3) := by decide +kernel
theorem dX2_twinOf_32 : decode cX2_twinOf 32 = .ok (.goto 4, 3) := by decide +kernel
theorem dX2_twinOf_35 : decode cX2_twinOf 35 = .ok (.iconst (-1), 1) := by decide +kernel
theorem dX2_twinOf_36 : decode cX2_twinOf 36 = .ok (.ireturn, 1) := by decide +kernel
theorem dX2_nearest_0 : decode cX2_nearest 0 = .ok (.iconst (-1), 1) := by decide +kernel
theorem dX2_nearest_1 : decode cX2_nearest 1 = .ok (.istore_n 2, 1) := by decide +kernel
theorem dX2_nearest_2 : decode cX2_nearest 2 = .ok (.ldc 89, 2) := by decide +kernel
theorem dX2_nearest_4 : decode cX2_nearest 4 = .ok (.istore_n 3, 1) := by decide +kernel
theorem dX2_nearest_5 : decode cX2_nearest 5 = .ok (.iconst 0, 1) := by decide +kernel
theorem dX2_nearest_6 : decode cX2_nearest 6 = .ok (.istore 4, 2) := by decide +kernel
theorem dX2_nearest_8 : decode cX2_nearest 8 = .ok (.iload 4, 2) := by decide +kernel
theorem dX2_nearest_10 : decode cX2_nearest 10 = .ok (.aload_n 0, 1) := by decide +kernel
theorem dX2_nearest_11 : decode cX2_nearest 11 = .ok (.getfield 39, 3) := by decide +kernel
theorem dX2_nearest_14 : decode cX2_nearest 14 = .ok (.if_icmp .ge 41, 3) := by decide +kernel
theorem dX2_nearest_17 : decode cX2_nearest 17 = .ok (.iload 4, 2) := by decide +kernel
theorem dX2_nearest_19 : decode cX2_nearest 19 = .ok (.iload_n 1, 1) := by decide +kernel
theorem dX2_nearest_20 : decode cX2_nearest 20 = .ok (.if_icmp .eq 29, 3) := by decide +kernel
theorem dX2_nearest_23 : decode cX2_nearest 23 = .ok (.aload_n 0, 1) := by decide +kernel
theorem dX2_nearest_24 : decode cX2_nearest 24 = .ok (.getfield 32, 3) := by decide +kernel
theorem dX2_nearest_27 : decode cX2_nearest 27 = .ok (.iload_n 1, 1) := by decide +kernel
theorem dX2_nearest_28 : decode cX2_nearest 28 = .ok (.aaload, 1) := by decide +kernel
theorem dX2_nearest_29 : decode cX2_nearest 29 = .ok (.iload 4, 2) := by decide +kernel
theorem dX2_nearest_31 : decode cX2_nearest 31 = .ok (.iaload, 1) := by decide +kernel
theorem dX2_nearest_32 : decode cX2_nearest 32 = .ok (.iload_n 3, 1) := by decide +kernel
theorem dX2_nearest_33 : decode cX2_nearest 33 = .ok (.if_icmp .ge 16, 3) := by decide +kernel
theorem dX2_nearest_36 : decode cX2_nearest 36 = .ok (.iload 4, 2) := by decide +kernel
theorem dX2_nearest_38 : decode cX2_nearest 38 = .ok (.istore_n 2, 1) := by decide +kernel
theorem dX2_nearest_39 : decode cX2_nearest 39 = .ok (.aload_n 0, 1) := by decide +kernel
theorem dX2_nearest_40 : decode cX2_nearest 40 = .ok (.getfield 32, 3) := by decide +kernel
theorem dX2_nearest_43 : decode cX2_nearest 43 = .ok (.iload_n 1, 1) := by decide +kernel
theorem dX2_nearest_44 : decode cX2_nearest 44 = .ok (.aaload, 1) := by decide +kernel
theorem dX2_nearest_45 : decode cX2_nearest 45 = .ok (.iload 4, 2) := by decide +kernel
theorem dX2_nearest_47 : decode cX2_nearest 47 = .ok (.iaload, 1) := by decide +kernel
theorem dX2_nearest_48 : decode cX2_nearest 48 = .ok (.istore_n 3, 1) := by decide +kernel
theorem dX2_nearest_49 : decode cX2_nearest 49 = .ok (.iinc 4 1, 3) := by decide +kernel
theorem dX2_nearest_52 : decode cX2_nearest 52 = .ok (.goto (-44), 3) := by decide +kernel
theorem dX2_nearest_55 : decode cX2_nearest 55 = .ok (.iload_n 2, 1) := by decide +kernel
theorem dX2_nearest_56 : decode cX2_nearest 56 = .ok (.ireturn, 1) := by decide +kernel
set_option maxRecDepth 20000 in
theorem ggX2_tieTwins_X2_isLive : GoodIn wsX2_tieTwins wsX2_isLive := goodIn_r _ [6, 7, 8, 9, 10, 5, 11, 12, 13, 14, 15, 16, 17, 18, 19, 20, 21, 22, 23, 24, 25, 26] (by decide +kernel) (by decide +kernel)
set_option maxRecDepth 20000 in
theorem gX2_tieTwins_X2_isLive : GoodIn wsX2_tieTwins (wsV RX2 90 RX2 yX2_isLive wsX2_isLive) := goodIn_app (goodIn_of _ (by decide +kernel)) ggX2_tieTwins_X2_isLive
theorem dX2_tieTwins_0 : decode cX2_tieTwins 0 = .ok (.aload_n 0, 1) := by decide +kernel
theorem dX2_tieTwins_1 : decode cX2_tieTwins 1 = .ok (.iload_n 1, 1) := by decide +kernel
theorem dX2_tieTwins_2 : decode cX2_tieTwins 2 = .ok (.invokevirtual 90, 3) := by decide +kernel
theorem dX2_tieTwins_5 : decode cX2_tieTwins 5 = .ok (.ifCond .eq 35, 3) := by decide +kernel
theorem dX2_tieTwins_8 : decode cX2_tieTwins 8 = .ok (.aload_n 0, 1) := by decide +kernel
theorem dX2_tieTwins_9 : decode cX2_tieTwins 9 = .ok (.iload_n 2, 1) := by decide +kernel
theorem dX2_tieTwins_10 : decode cX2_tieTwins 10 = .ok (.invokevirtual 90, 3) := by decide +kernel
theorem dX2_tieTwins_13 : decode cX2_tieTwins 13 = .ok (.ifCond .eq 27, 3) := by decide +kernel
theorem dX2_tieTwins_16 : decode cX2_tieTwins 16 = .ok (.aload_n 0, 1) := by decide +kernel
theorem dX2_tieTwins_17 : decode cX2_tieTwins 17 = .ok (.getfield 27, 3) := by decide +kernel
theorem dX2_tieTwins_20 : decode cX2_tieTwins 20 = .ok (.iload_n 1, 1) := by decide +kernel
theorem dX2_tieTwins_21 : decode cX2_tieTwins 21 = .ok (.dup2, 1) := by decide +kernel
theorem dX2_tieTwins_22 : decode cX2_tieTwins 22 = .ok (.iaload, 1) := by decide +kernel
theorem dX2_tieTwins_23 : decode cX2_tieTwins 23 = .ok (.iconst 1, 1) := by decide +kernel
theorem dX2_tieTwins_24 : decode cX2_tieTwins 24 = .ok (.iload_n 2, 1) := by decide +kernel
theorem dX2_tieTwins_25 : decode cX2_tieTwins 25 = .ok (.ishl, 1) := by decide +kernel
theorem dX2_tieTwins_26 : decode cX2_tieTwins 26 = .ok (.ior, 1) := by decide +kernel
theorem dX2_tieTwins_27 : decode cX2_tieTwins 27 = .ok (.iastore, 1) := by decide +kernel
theorem dX2_tieTwins_28 : decode cX2_tieTwins 28 = .ok (.aload_n 0, 1) := by decide +kernel
theorem dX2_tieTwins_29 : decode cX2_tieTwins 29 = .ok (.getfield 27, 3) := by decide +kernel
theorem dX2_tieTwins_32 : decode cX2_tieTwins 32 = .ok (.iload_n 2, 1) := by decide +kernel
theorem dX2_tieTwins_33 : decode cX2_tieTwins 33 = .ok (.dup2, 1) := by decide +kernel
theorem dX2_tieTwins_34 : decode cX2_tieTwins 34 = .ok (.iaload, 1) := by decide +kernel
theorem dX2_tieTwins_35 : decode cX2_tieTwins 35 = .ok (.iconst 1, 1) := by decide +kernel
theorem dX2_tieTwins_36 : decode cX2_tieTwins 36 = .ok (.iload_n 1, 1) := by decide +kernel
theorem dX2_tieTwins_37 : decode cX2_tieTwins 37 = .ok (.ishl, 1) := by decide +kernel
theorem dX2_tieTwins_38 : decode cX2_tieTwins 38 = .ok (.ior, 1) := by decide +kernel
theorem dX2_tieTwins_39 : decode cX2_tieTwins 39 = .ok (.iastore, 1) := by decide +kernel
theorem dX2_tieTwins_40 : decode cX2_tieTwins 40 = .ok (.return_, 1) := by decide +kernel
theorem dX3_init_0 : decode cX3_init 0 = .ok (.aload_n 0, 1) := by decide +kernel
theorem dX3_init_1 : decode cX3_init 1 = .ok (.invokespecial 3, 3) := by decide +kernel
theorem dX3_init_4 : decode cX3_init 4 = .ok (.aload_n 0, 1) := by decide +kernel
theorem dX3_init_5 : decode cX3_init 5 = .ok (.sipush 400, 3) := by decide +kernel
theorem dX3_init_8 : decode cX3_init 8 = .ok (.newarray .int, 2) := by decide +kernel
theorem dX3_init_10 : decode cX3_init 10 = .ok (.putfield 9, 3) := by decide +kernel
theorem dX3_init_13 : decode cX3_init 13 = .ok (.aload_n 0, 1) := by decide +kernel
theorem dX3_init_14 : decode cX3_init 14 = .ok (.sipush 400, 3) := by decide +kernel
theorem dX3_init_17 : decode cX3_init 17 = .ok (.newarray .int, 2) := by decide +kernel
theorem dX3_init_19 : decode cX3_init 19 = .ok (.putfield 15, 3) := by decide +kernel
theorem dX3_init_22 : decode cX3_init 22 = .ok (.aload_n 0, 1) := by decide +kernel
theorem dX3_init_23 : decode cX3_init 23 = .ok (.sipush 400, 3) := by decide +kernel
theorem dX3_init_26 : decode cX3_init 26 = .ok (.newarray .int, 2) := by decide +kernel
theorem dX3_init_28 : decode cX3_init 28 = .ok (.putfield 18, 3) := by decide +kernel
theorem dX3_init_31 : decode cX3_init 31 = .ok (.aload_n 0, 1) := by decide +kernel
theorem dX3_init_32 : decode cX3_init 32 = .ok (.iconst 0, 1) := by decide +kernel
theorem dX3_init_33 : decode cX3_init 33 = .ok (.putfield 21, 3) := by decide +kernel
theorem dX3_init_36 : decode cX3_init 36 = .ok (.return_, 1) := by decide +kernel
theorem dX3_hasLine_0 : decode cX3_hasLine 0 = .ok (.iload_n 1, 1) := by decide +kernel
theorem dX3_hasLine_1 : decode cX3_hasLine 1 = .ok (.ifCond .lt 15, 3) := by decide +kernel
theorem dX3_hasLine_4 : decode cX3_hasLine 4 = .ok (.iload_n 1, 1) := by decide +kernel
theorem dX3_hasLine_5 : decode cX3_hasLine 5 = .ok (.aload_n 0, 1) := by decide +kernel
theorem dX3_hasLine_6 : decode cX3_hasLine 6 = .ok (.getfield 21, 3) := by decide +kernel
theorem dX3_hasLine_9 : decode cX3_hasLine 9 = .ok (.if_icmp .ge 7, 3) := by decide +kernel
theorem dX3_hasLine_12 : decode cX3_hasLine 12 = .ok (.iconst 1, 1) := by decide +kernel
theorem dX3_hasLine_13 : decode cX3_hasLine 13 = .ok (.goto 4, 3) := by decide +kernel
theorem dX3_hasLine_16 : decode cX3_hasLine 16 = .ok (.iconst 0, 1) := by decide +kernel
theorem dX3_hasLine_17 : decode cX3_hasLine 17 = .ok (.ireturn, 1) := by decide +kernel
theorem dX3_write_0 : decode cX3_write 0 = .ok (.aload_n 0, 1) := by decide +kernel
theorem dX3_write_1 : decode cX3_write 1 = .ok (.getfield 9, 3) := by decide +kernel
theorem dX3_write_4 : decode cX3_write 4 = .ok (.iload_n 1, 1) := by decide +kernel
theorem dX3_write_5 : decode cX3_write 5 = .ok (.iload_n 2, 1) := by decide +kernel
theorem dX3_write_6 : decode cX3_write 6 = .ok (.iastore, 1) := by decide +kernel
theorem dX3_write_7 : decode cX3_write 7 = .ok (.aload_n 0, 1) := by decide +kernel
theorem dX3_write_8 : decode cX3_write 8 = .ok (.getfield 15, 3) := by decide +kernel
theorem dX3_write_11 : decode cX3_write 11 = .ok (.iload_n 1, 1) := by decide +kernel
theorem dX3_write_12 : decode cX3_write 12 = .ok (.iload_n 3, 1) := by decide +kernel
theorem dX3_write_13 : decode cX3_write 13 = .ok (.iastore, 1) := by decide +kernel
theorem dX3_write_14 : decode cX3_write 14 = .ok (.aload_n 0, 1) := by decide +kernel
theorem dX3_write_15 : decode cX3_write 15 = .ok (.getfield 18, 3) := by decide +kernel
theorem dX3_write_18 : decode cX3_write 18 = .ok (.iload_n 1, 1) := by decide +kernel
theorem dX3_write_19 : decode cX3_write 19 = .ok (.iload 4, 2) := by decide +kernel
theorem dX3_write_21 : decode cX3_write 21 = .ok (.iastore, 1) := by decide +kernel
theorem dX3_write_22 : decode cX3_write 22 = .ok (.return_, 1) := by decide +kernel
set_option maxRecDepth 20000 in
theorem ggX3_append_X3_write : GoodIn wsX3_append wsX3_write := goodIn_r _ [6, 7, 8, 9, 10, 11, 12, 13] (by decide +kernel) (by decide +kernel)
set_option maxRecDepth 20000 in
theorem gX3_append_X3_write : GoodIn wsX3_append (wsV RX3 25 RX3 yX3_write wsX3_write) := goodIn_app (goodIn_of _ (by decide +kernel)) ggX3_append_X3_write
theorem dX3_append_0 : decode cX3_append 0 = .ok (.aload_n 0, 1) := by decide +kernel
theorem dX3_append_1 : decode cX3_append 1 = .ok (.getfield 21, 3) := by decide +kernel
theorem dX3_append_4 : decode cX3_append 4 = .ok (.sipush 400, 3) := by decide +kernel
theorem dX3_append_7 : decode cX3_append 7 = .ok (.if_icmp .ge 24, 3) := by decide +kernel
theorem dX3_append_10 : decode cX3_append 10 = .ok (.aload_n 0, 1) := by decide +kernel
theorem dX3_append_11 : decode cX3_append 11 = .ok (.aload_n 0, 1) := by decide +kernel
theorem dX3_append_12 : decode cX3_append 12 = .ok (.getfield 21, 3) := by decide +kernel
theorem dX3_append_15 : decode cX3_append 15 = .ok (.iload_n 1, 1) := by decide +kernel
theorem dX3_append_16 : decode cX3_append 16 = .ok (.iload_n 2, 1) := by decide +kernel
theorem dX3_append_17 : decode cX3_append 17 = .ok (.iload_n 3, 1) := by decide +kernel
theorem dX3_append_18 : decode cX3_append 18 = .ok (.invokevirtual 25, 3) := by decide +kernel
theorem dX3_append_21 : decode cX3_append 21 = .ok (.aload_n 0, 1) := by decide +kernel
theorem dX3_append_22 : decode cX3_append 22 = .ok (.dup, 1) := by decide +kernel
theorem dX3_append_23 : decode cX3_append 23 = .ok (.getfield 21, 3) := by decide +kernel
theorem dX3_append_26 : decode cX3_append 26 = .ok (.iconst 1, 1) := by decide +kernel
theorem dX3_append_27 : decode cX3_append 27 = .ok (.iadd, 1) := by decide +kernel
theorem dX3_append_28 : decode cX3_append 28 = .ok (.putfield 21, 3) := by decide +kernel
theorem dX3_append_31 : decode cX3_append 31 = .ok (.return_, 1) := by decide +kernel
theorem dX3_copyFrom_0 : decode cX3_copyFrom 0 = .ok (.aload_n 1, 1) := by decide +kernel
theorem dX3_copyFrom_1 : decode cX3_copyFrom 1 = .ok (.getfield 9, 3) := by decide +kernel
theorem dX3_copyFrom_4 : decode cX3_copyFrom 4 = .ok (.iconst 0, 1) := by decide +kernel
theorem dX3_copyFrom_5 : decode cX3_copyFrom 5 = .ok (.aload_n 0, 1) := by decide +kernel
theorem dX3_copyFrom_6 : decode cX3_copyFrom 6 = .ok (.getfield 9, 3) := by decide +kernel
theorem dX3_copyFrom_9 : decode cX3_copyFrom 9 = .ok (.iconst 0, 1) := by decide +kernel
theorem dX3_copyFrom_10 : decode cX3_copyFrom 10 = .ok (.aload_n 1, 1) := by decide +kernel
theorem dX3_copyFrom_11 : decode cX3_copyFrom 11 = .ok (.getfield 21, 3) := by decide +kernel
theorem dX3_copyFrom_14 : decode cX3_copyFrom 14 = .ok (.invokestatic 29, 3) := by decide +kernel
theorem dX3_copyFrom_17 : decode cX3_copyFrom 17 = .ok (.aload_n 1, 1) := by decide +kernel
theorem dX3_copyFrom_18 : decode cX3_copyFrom 18 = .ok (.getfield 15, 3) := by decide +kernel
theorem dX3_copyFrom_21 : decode cX3_copyFrom 21 = .ok (.iconst 0, 1) := by decide +kernel
theorem dX3_copyFrom_22 : decode cX3_copyFrom 22 = .ok (.aload_n 0, 1) := by decide +kernel
theorem dX3_copyFrom_23 : decode cX3_copyFrom 23 = .ok (.getfield 15, 3) := by decide +kernel
theorem dX3_copyFrom_26 : decode cX3_copyFrom 26 = .ok (.iconst 0, 1) := by decide +kernel
theorem dX3_copyFrom_27 : decode cX3_copyFrom 27 = .ok (.aload_n 1, 1) := by decide +kernel
theorem dX3_copyFrom_28 : decode cX3_copyFrom 28 = .ok (.getfield 21, 3) := by decide +kernel
theorem dX3_copyFrom_31 : decode cX3_copyFrom 31 = .ok (.invokestatic 29, 3) := by decide +kernel
theorem dX3_copyFrom_34 : decode cX3_copyFrom 34 = .ok (.aload_n 1, 1) := by decide +kernel
theorem dX3_copyFrom_35 : decode cX3_copyFrom 35 = .ok (.getfield 18, 3) := by decide +kernel
theorem dX3_copyFrom_38 : decode cX3_copyFrom 38 = .ok (.iconst 0, 1) := by decide +kernel
theorem dX3_copyFrom_39 : decode cX3_copyFrom 39 = .ok (.aload_n 0, 1) := by decide +kernel
theorem dX3_copyFrom_40 : decode cX3_copyFrom 40 = .ok (.getfield 18, 3) := by decide +kernel
theorem dX3_copyFrom_43 : decode cX3_copyFrom 43 = .ok (.iconst 0, 1) := by decide +kernel
theorem dX3_copyFrom_44 : decode cX3_copyFrom 44 = .ok (.aload_n 1, 1) := by decide +kernel
theorem dX3_copyFrom_45 : decode cX3_copyFrom 45 = .ok (.getfield 21, 3) := by decide +kernel
theorem dX3_copyFrom_48 : decode cX3_copyFrom 48 = .ok (.invokestatic 29, 3) := by decide +kernel
theorem dX3_copyFrom_51 : decode cX3_copyFrom 51 = .ok (.aload_n 0, 1) := by decide +kernel
theorem dX3_copyFrom_52 : decode cX3_copyFrom 52 = .ok (.aload_n 1, 1) := by decide +kernel
theorem dX3_copyFrom_53 : decode cX3_copyFrom 53 = .ok (.getfield 21, 3) := by decide +kernel
theorem dX3_copyFrom_56 : decode cX3_copyFrom 56 = .ok (.putfield 21, 3) := by decide +kernel
theorem dX3_copyFrom_59 : decode cX3_copyFrom 59 = .ok (.return_, 1) := by decide +kernel
set_option maxRecDepth 20000 in
theorem ggX4_init_J7_fill_53178 : GoodIn wsX4_init wsJ7_fill_53178 := goodIn_r _ [13] (by decide +kernel) (by decide +kernel)
set_option maxRecDepth 20000 in
theorem gX4_init_J7_fill_53178 : GoodIn wsX4_init (va_wsS RX4 23 yJ7_fill_53178 wsJ7_fill_53178) := goodIn_app (goodIn_of _ (by decide +kernel)) ggX4_init_J7_fill_53178
theorem dX4_init_0 : decode cX4_init 0 = .ok (.aload_n 0, 1) := by decide +kernel
theorem dX4_init_1 : decode cX4_init 1 = .ok (.invokespecial 3, 3) := by decide +kernel
theorem dX4_init_4 : decode cX4_init 4 = .ok (.aload_n 0, 1) := by decide +kernel
theorem dX4_init_5 : decode cX4_init 5 = .ok (.iconst 4, 1) := by decide +kernel
theorem dX4_init_6 : decode cX4_init 6 = .ok (.bipush 50, 2) := by decide +kernel
theorem dX4_init_8 : decode cX4_init 8 = .ok (.multianewarray 9 2, 4) := by decide +kernel
theorem dX4_init_12 : decode cX4_init 12 = .ok (.putfield 11, 3) := by decide +kernel
theorem dX4_init_15 : decode cX4_init 15 = .ok (.aload_n 0, 1) := by decide +kernel
theorem dX4_init_16 : decode cX4_init 16 = .ok (.iconst 4, 1) := by decide +kernel
theorem dX4_init_17 : decode cX4_init 17 = .ok (.newarray .int, 2) := by decide +kernel
theorem dX4_init_19 : decode cX4_init 19 = .ok (.putfield 16, 3) := by decide +kernel
theorem dX4_init_22 : decode cX4_init 22 = .ok (.aload_n 0, 1) := by decide +kernel
theorem dX4_init_23 : decode cX4_init 23 = .ok (.iconst 4, 1) := by decide +kernel
theorem dX4_init_24 : decode cX4_init 24 = .ok (.newarray .int, 2) := by decide +kernel
theorem dX4_init_26 : decode cX4_init 26 = .ok (.putfield 20, 3) := by decide +kernel
theorem dX4_init_29 : decode cX4_init 29 = .ok (.aload_n 0, 1) := by decide +kernel
theorem dX4_init_30 : decode cX4_init 30 = .ok (.getfield 20, 3) := by decide +kernel
theorem dX4_init_33 : decode cX4_init 33 = .ok (.iconst (-1), 1) := by decide +kernel
theorem dX4_init_34 : decode cX4_init 34 = .ok (.invokestatic 23, 3) := by decide +kernel
theorem dX4_init_37 : decode cX4_init 37 = .ok (.return_, 1) := by decide +kernel
theorem dX4_isNumber_0 : decode cX4_isNumber 0 = .ok (.iload_n 1, 1) := by decide +kernel
theorem dX4_isNumber_1 : decode cX4_isNumber 1 = .ok (.ifCond .lt 12, 3) := by decide +kernel
theorem dX4_isNumber_4 : decode cX4_isNumber 4 = .ok (.iload_n 1, 1) := by decide +kernel
theorem dX4_isNumber_5 : decode cX4_isNumber 5 = .ok (.iconst 4, 1) := by decide +kernel
theorem dX4_isNumber_6 : decode cX4_isNumber 6 = .ok (.if_icmp .ge 7, 3) := by decide +kernel
theorem dX4_isNumber_9 : decode cX4_isNumber 9 = .ok (.iconst 1, 1) := by decide +kernel
theorem dX4_isNumber_10 : decode cX4_isNumber 10 = .ok (.goto 4, 3) := by decide +kernel
theorem dX4_isNumber_13 : decode cX4_isNumber 13 = .ok (.iconst 0, 1) := by decide +kernel
theorem dX4_isNumber_14 : decode cX4_isNumber 14 = .ok (.ireturn, 1) := by decide +kernel
theorem dX4_isMissing_0 : decode cX4_isMissing 0 = .ok (.aload_n 0, 1) := by decide +kernel
theorem dX4_isMissing_1 : decode cX4_isMissing 1 = .ok (.getfield 20, 3) := by decide +kernel
theorem dX4_isMissing_4 : decode cX4_isMissing 4 = .ok (.iload_n 1, 1) := by decide +kernel
theorem dX4_isMissing_5 : decode cX4_isMissing 5 = .ok (.iaload, 1) := by decide +kernel
theorem dX4_isMissing_6 : decode cX4_isMissing 6 = .ok (.iconst (-1), 1) := by decide +kernel
theorem dX4_isMissing_7 : decode cX4_isMissing 7 = .ok (.if_icmp .ne 7, 3) := by decide +kernel
theorem dX4_isMissing_10 : decode cX4_isMissing 10 = .ok (.iconst 1, 1) := by decide +kernel
theorem dX4_isMissing_11 : decode cX4_isMissing 11 = .ok (.goto 4, 3) := by decide +kernel
theorem dX4_isMissing_14 : decode cX4_isMissing 14 = .ok (.iconst 0, 1) := by decide +kernel
theorem dX4_isMissing_15 : decode cX4_isMissing 15 = .ok (.ireturn, 1) := by decide +kernel
theorem dX4_hasCell_0 : decode cX4_hasCell 0 = .ok (.iload_n 2, 1) := by decide +kernel
theorem dX4_hasCell_1 : decode cX4_hasCell 1 = .ok (.ifCond .lt 17, 3) := by decide +kernel
theorem dX4_hasCell_4 : decode cX4_hasCell 4 = .ok (.iload_n 2, 1) := by decide +kernel
theorem dX4_hasCell_5 : decode cX4_hasCell 5 = .ok (.aload_n 0, 1) := by decide +kernel
theorem dX4_hasCell_6 : decode cX4_hasCell 6 = .ok (.getfield 20, 3) := by decide +kernel
theorem dX4_hasCell_9 : decode cX4_hasCell 9 = .ok (.iload_n 1, 1) := by decide +kernel
theorem dX4_hasCell_10 : decode cX4_hasCell 10 = .ok (.iaload, 1) := by decide +kernel
theorem dX4_hasCell_11 : decode cX4_hasCell 11 = .ok (.if_icmp .ge 7, 3) := by decide +kernel
theorem dX4_hasCell_14 : decode cX4_hasCell 14 = .ok (.iconst 1, 1) := by decide +kernel
theorem dX4_hasCell_15 : decode cX4_hasCell 15 = .ok (.goto 4, 3) := by decide +kernel
theorem dX4_hasCell_18 : decode cX4_hasCell 18 = .ok (.iconst 0, 1) := by decide +kernel
theorem dX4_hasCell_19 : decode cX4_hasCell 19 = .ok (.ireturn, 1) := by decide +kernel
set_option maxRecDepth 20000 in
theorem ggX4_make_J7_fill_d0a16 : GoodIn wsX4_make wsJ7_fill_d0a16 := goodIn_r _ [7] (by decide +kernel) (by decide +kernel)
set_option maxRecDepth 20000 in
theorem gX4_make_J7_fill_d0a16 : GoodIn wsX4_make (va_wsS RX4 29 yJ7_fill_d0a16 wsJ7_fill_d0a16) := goodIn_app (goodIn_of _ (by decide +kernel)) ggX4_make_J7_fill_d0a16
theorem dX4_make_0 : decode cX4_make 0 = .ok (.aload_n 0, 1) := by decide +kernel
theorem dX4_make_1 : decode cX4_make 1 = .ok (.getfield 16, 3) := by decide +kernel
theorem dX4_make_4 : decode cX4_make 4 = .ok (.iload_n 1, 1) := by decide +kernel
theorem dX4_make_5 : decode cX4_make 5 = .ok (.iload_n 2, 1) := by decide +kernel
theorem dX4_make_6 : decode cX4_make 6 = .ok (.iastore, 1) := by decide +kernel
theorem dX4_make_7 : decode cX4_make 7 = .ok (.aload_n 0, 1) := by decide +kernel
theorem dX4_make_8 : decode cX4_make 8 = .ok (.getfield 20, 3) := by decide +kernel
theorem dX4_make_11 : decode cX4_make 11 = .ok (.iload_n 1, 1) := by decide +kernel
theorem dX4_make_12 : decode cX4_make 12 = .ok (.iload_n 3, 1) := by decide +kernel
theorem dX4_make_13 : decode cX4_make 13 = .ok (.iastore, 1) := by decide +kernel
theorem dX4_make_14 : decode cX4_make 14 = .ok (.aload_n 0, 1) := by decide +kernel
theorem dX4_make_15 : decode cX4_make 15 = .ok (.getfield 11, 3) := by decide +kernel
theorem dX4_make_18 : decode cX4_make 18 = .ok (.iload_n 1, 1) := by decide +kernel
theorem dX4_make_19 : decode cX4_make 19 = .ok (.aaload, 1) := by decide +kernel
theorem dX4_make_20 : decode cX4_make 20 = .ok (.lconst 1, 1) := by decide +kernel
theorem dX4_make_21 : decode cX4_make 21 = .ok (.invokestatic 29, 3) := by decide +kernel
theorem dX4_make_24 : decode cX4_make 24 = .ok (.return_, 1) := by decide +kernel
theorem dX4_write_0 : decode cX4_write 0 = .ok (.aload_n 0, 1) := by decide +kernel
theorem dX4_write_1 : decode cX4_write 1 = .ok (.getfield 16, 3) := by decide +kernel
theorem dX4_write_4 : decode cX4_write 4 = .ok (.iload_n 1, 1) := by decide +kernel
theorem dX4_write_5 : decode cX4_write 5 = .ok (.iaload, 1) := by decide +kernel
theorem dX4_write_6 : decode cX4_write 6 = .ok (.lookupswitch 55 #[(0, 26), (1, 41)], 26) := by decide +kernel
theorem dX4_write_32 : decode cX4_write 32 = .ok (.aload_n 0, 1) := by decide +kernel
theorem dX4_write_33 : decode cX4_write 33 = .ok (.getfield 11, 3) := by decide +kernel
theorem dX4_write_36 : decode cX4_write 36 = .ok (.iload_n 1, 1) := by decide +kernel
theorem dX4_write_37 : decode cX4_write 37 = .ok (.aaload, 1) := by decide +kernel
theorem dX4_write_38 : decode cX4_write 38 = .ok (.iload_n 2, 1) := by decide +kernel
theorem dX4_write_39 : decode cX4_write 39 = .ok (.lload_n 3, 1) := by decide +kernel
theorem dX4_write_40 : decode cX4_write 40 = .ok (.l2i, 1) := by decide +kernel
theorem dX4_write_41 : decode cX4_write 41 = .ok (.i2s, 1) := by decide +kernel
theorem dX4_write_42 : decode cX4_write 42 = .ok (.i2l, 1) := by decide +kernel
theorem dX4_write_43 : decode cX4_write 43 = .ok (.lastore, 1) := by decide +kernel
theorem dX4_write_44 : decode cX4_write 44 = .ok (.goto 26, 3) := by decide +kernel
theorem dX4_write_47 : decode cX4_write 47 = .ok (.aload_n 0, 1) := by decide +kernel
theorem dX4_write_48 : decode cX4_write 48 = .ok (.getfield 11, 3) := by decide +kernel
theorem dX4_write_51 : decode cX4_write 51 = .ok (.iload_n 1, 1) := by decide +kernel
theorem dX4_write_52 : decode cX4_write 52 = .ok (.aaload, 1) := by decide +kernel
theorem dX4_write_53 : decode cX4_write 53 = .ok (.iload_n 2, 1) := by decide +kernel
theorem dX4_write_54 : decode cX4_write 54 = .ok (.lload_n 3, 1) := by decide +kernel
theorem dX4_write_55 : decode cX4_write 55 = .ok (.l2i, 1) := by decide +kernel
theorem dX4_write_56 : decode cX4_write 56 = .ok (.i2l, 1) := by decide +kernel
theorem dX4_write_57 : decode cX4_write 57 = .ok (.lastore, 1) := by decide +kernel
theorem dX4_write_58 : decode cX4_write 58 = .ok (.goto 12, 3) := by decide +kernel
theorem dX4_write_61 : decode cX4_write 61 = .ok (.aload_n 0, 1) := by decide +kernel
theorem dX4_write_62 : decode cX4_write 62 = .ok (.getfield 11, 3) := by decide +kernel
theorem dX4_write_65 : decode cX4_write 65 = .ok (.iload_n 1, 1) := by decide +kernel
theorem dX4_write_66 : decode cX4_write 66 = .ok (.aaload, 1) := by decide +kernel
theorem dX4_write_67 : decode cX4_write 67 = .ok (.iload_n 2, 1) := by decide +kernel
theorem dX4_write_68 : decode cX4_write 68 = .ok (.lload_n 3, 1) := by decide +kernel
theorem dX4_write_69 : decode cX4_write 69 = .ok (.lastore, 1) := by decide +kernel
theorem dX4_write_70 : decode cX4_write 70 = .ok (.return_, 1) := by decide +kernel
theorem dX4_drop_0 : decode cX4_drop 0 = .ok (.aload_n 0, 1) := by decide +kernel
theorem dX4_drop_1 : decode cX4_drop 1 = .ok (.getfield 20, 3) := by decide +kernel
theorem dX4_drop_4 : decode cX4_drop 4 = .ok (.iload_n 1, 1) := by decide +kernel
theorem dX4_drop_5 : decode cX4_drop 5 = .ok (.iconst (-1), 1) := by decide +kernel
theorem dX4_drop_6 : decode cX4_drop 6 = .ok (.iastore, 1) := by decide +kernel
theorem dX4_drop_7 : decode cX4_drop 7 = .ok (.return_, 1) := by decide +kernel
theorem dX5_init_0 : decode cX5_init 0 = .ok (.aload_n 0, 1) := by decide +kernel
theorem dX5_init_1 : decode cX5_init 1 = .ok (.invokespecial 5, 3) := by decide +kernel
theorem dX5_init_4 : decode cX5_init 4 = .ok (.aload_n 0, 1) := by decide +kernel
theorem dX5_init_5 : decode cX5_init 5 = .ok (.bipush 12, 2) := by decide +kernel
theorem dX5_init_7 : decode cX5_init 7 = .ok (.newarray .int, 2) := by decide +kernel
theorem dX5_init_9 : decode cX5_init 9 = .ok (.putfield 11, 3) := by decide +kernel
theorem dX5_init_12 : decode cX5_init 12 = .ok (.aload_n 0, 1) := by decide +kernel
theorem dX5_init_13 : decode cX5_init 13 = .ok (.bipush 12, 2) := by decide +kernel
theorem dX5_init_15 : decode cX5_init 15 = .ok (.newarray .int, 2) := by decide +kernel
theorem dX5_init_17 : decode cX5_init 17 = .ok (.putfield 17, 3) := by decide +kernel
theorem dX5_init_20 : decode cX5_init 20 = .ok (.aload_n 0, 1) := by decide +kernel
theorem dX5_init_21 : decode cX5_init 21 = .ok (.bipush 8, 2) := by decide +kernel
theorem dX5_init_23 : decode cX5_init 23 = .ok (.newarray .int, 2) := by decide +kernel
theorem dX5_init_25 : decode cX5_init 25 = .ok (.putfield 20, 3) := by decide +kernel
theorem dX5_init_28 : decode cX5_init 28 = .ok (.aload_n 0, 1) := by decide +kernel
theorem dX5_init_29 : decode cX5_init 29 = .ok (.bipush 8, 2) := by decide +kernel
theorem dX5_init_31 : decode cX5_init 31 = .ok (.newarray .int, 2) := by decide +kernel
theorem dX5_init_33 : decode cX5_init 33 = .ok (.putfield 23, 3) := by decide +kernel
theorem dX5_init_36 : decode cX5_init 36 = .ok (.aload_n 0, 1) := by decide +kernel
theorem dX5_init_37 : decode cX5_init 37 = .ok (.bipush 8, 2) := by decide +kernel
theorem dX5_init_39 : decode cX5_init 39 = .ok (.newarray .int, 2) := by decide +kernel
theorem dX5_init_41 : decode cX5_init 41 = .ok (.putfield 26, 3) := by decide +kernel
theorem dX5_init_44 : decode cX5_init 44 = .ok (.aload_n 0, 1) := by decide +kernel
theorem dX5_init_45 : decode cX5_init 45 = .ok (.bipush 8, 2) := by decide +kernel
theorem dX5_init_47 : decode cX5_init 47 = .ok (.newarray .int, 2) := by decide +kernel
theorem dX5_init_49 : decode cX5_init 49 = .ok (.putfield 29, 3) := by decide +kernel
theorem dX5_init_52 : decode cX5_init 52 = .ok (.aload_n 0, 1) := by decide +kernel
theorem dX5_init_53 : decode cX5_init 53 = .ok (.iconst 0, 1) := by decide +kernel
theorem dX5_init_54 : decode cX5_init 54 = .ok (.putfield 32, 3) := by decide +kernel
theorem dX5_init_57 : decode cX5_init 57 = .ok (.aload_n 0, 1) := by decide +kernel
theorem dX5_init_58 : decode cX5_init 58 = .ok (.iconst 0, 1) := by decide +kernel
theorem dX5_init_59 : decode cX5_init 59 = .ok (.putfield 36, 3) := by decide +kernel
theorem dX5_init_62 : decode cX5_init 62 = .ok (.aload_n 0, 1) := by decide +kernel
theorem dX5_init_63 : decode cX5_init 63 = .ok (.ldc 40, 2) := by decide +kernel
theorem dX5_init_65 : decode cX5_init 65 = .ok (.putfield 41, 3) := by decide +kernel
theorem dX5_init_68 : decode cX5_init 68 = .ok (.aload_n 0, 1) := by decide +kernel
theorem dX5_init_69 : decode cX5_init 69 = .ok (.aload_n 1, 1) := by decide +kernel
theorem dX5_init_70 : decode cX5_init 70 = .ok (.putfield 44, 3) := by decide +kernel
theorem dX5_init_73 : decode cX5_init 73 = .ok (.return_, 1) := by decide +kernel
set_option maxRecDepth 20000 in
theorem ggX5_begin_X2_survey : GoodIn wsX5_begin wsX2_survey := goodIn_r _ [17, 18, 19, 20, 21, 22, 23, 24, 25, 26, 27, 28, 29, 30, 31, 32, 33, 34, 35, 36, 37, 38, 39, 40, 41, 42, 43, 44, 45, 46, 47, 48, 49, 50, 51, 52, 53, 16, 54, 55, 56, 57, 58, 59, 60, 61, 62, 63, 64, 65, 66, 67, 68, 69, 70, 71, 72, 73, 74, 75, 76, 77, 90, 91, 92, 93, 94, 95, 96, 97, 98, 99, 100, 101, 102, 103, 104, 105, 106, 107] (by decide +kernel) (by decide +kernel)
set_option maxRecDepth 20000 in
theorem gX5_begin_X2_survey : GoodIn wsX5_begin (wsV RX5 48 RX2 yX2_survey wsX2_survey) := goodIn_app (goodIn_of _ (by decide +kernel)) ggX5_begin_X2_survey
set_option maxRecDepth 20000 in
theorem ggX5_begin_J7_fill_53178 : GoodIn wsX5_begin wsJ7_fill_53178 := goodIn_r _ [42] (by decide +kernel) (by decide +kernel)
set_option maxRecDepth 20000 in
theorem gX5_begin_J7_fill_53178 : GoodIn wsX5_begin (va_wsS RX5 62 yJ7_fill_53178 wsJ7_fill_53178) := goodIn_app (goodIn_of _ (by decide +kernel)) ggX5_begin_J7_fill_53178
set_option maxRecDepth 20000 in
theorem ggX5_begin_X2_isLive : GoodIn wsX5_begin wsX2_isLive := goodIn_r _ [69, 70, 71, 72, 73, 16, 74, 19, 75, 76, 77, 90, 91, 92, 93, 94, 95, 96, 97, 98, 99, 100] (by decide +kernel) (by decide +kernel)
set_option maxRecDepth 20000 in
theorem gX5_begin_X2_isLive : GoodIn wsX5_begin (wsV RX5 71 RX2 yX2_isLive wsX2_isLive) := goodIn_app (goodIn_of _ (by decide +kernel)) ggX5_begin_X2_isLive
theorem dX5_begin_0 : decode cX5_begin 0 = .ok (.aload_n 0, 1) := by decide +kernel
theorem dX5_begin_1 : decode cX5_begin 1 = .ok (.getfield 44, 3) := by decide +kernel
theorem dX5_begin_4 : decode cX5_begin 4 = .ok (.invokevirtual 48, 3) := by decide +kernel
theorem dX5_begin_7 : decode cX5_begin 7 = .ok (.aload_n 0, 1) := by decide +kernel
theorem dX5_begin_8 : decode cX5_begin 8 = .ok (.getfield 44, 3) := by decide +kernel
theorem dX5_begin_11 : decode cX5_begin 11 = .ok (.getfield 53, 3) := by decide +kernel
theorem dX5_begin_14 : decode cX5_begin 14 = .ok (.iconst 0, 1) := by decide +kernel
theorem dX5_begin_15 : decode cX5_begin 15 = .ok (.aload_n 0, 1) := by decide +kernel
theorem dX5_begin_16 : decode cX5_begin 16 = .ok (.getfield 11, 3) := by decide +kernel
theorem dX5_begin_19 : decode cX5_begin 19 = .ok (.iconst 0, 1) := by decide +kernel
theorem dX5_begin_20 : decode cX5_begin 20 = .ok (.bipush 12, 2) := by decide +kernel
theorem dX5_begin_22 : decode cX5_begin 22 = .ok (.invokestatic 56, 3) := by decide +kernel
theorem dX5_begin_25 : decode cX5_begin 25 = .ok (.aload_n 0, 1) := by decide +kernel
theorem dX5_begin_26 : decode cX5_begin 26 = .ok (.getfield 17, 3) := by decide +kernel
theorem dX5_begin_29 : decode cX5_begin 29 = .ok (.iconst 0, 1) := by decide +kernel
theorem dX5_begin_30 : decode cX5_begin 30 = .ok (.invokestatic 62, 3) := by decide +kernel
theorem dX5_begin_33 : decode cX5_begin 33 = .ok (.aload_n 0, 1) := by decide +kernel
theorem dX5_begin_34 : decode cX5_begin 34 = .ok (.iconst 0, 1) := by decide +kernel
theorem dX5_begin_35 : decode cX5_begin 35 = .ok (.putfield 32, 3) := by decide +kernel
theorem dX5_begin_38 : decode cX5_begin 38 = .ok (.aload_n 0, 1) := by decide +kernel
theorem dX5_begin_39 : decode cX5_begin 39 = .ok (.ldc 40, 2) := by decide +kernel
theorem dX5_begin_41 : decode cX5_begin 41 = .ok (.putfield 41, 3) := by decide +kernel
theorem dX5_begin_44 : decode cX5_begin 44 = .ok (.aload_n 0, 1) := by decide +kernel
theorem dX5_begin_45 : decode cX5_begin 45 = .ok (.iconst 0, 1) := by decide +kernel
theorem dX5_begin_46 : decode cX5_begin 46 = .ok (.putfield 36, 3) := by decide +kernel
theorem dX5_begin_49 : decode cX5_begin 49 = .ok (.iconst 0, 1) := by decide +kernel
theorem dX5_begin_50 : decode cX5_begin 50 = .ok (.istore_n 1, 1) := by decide +kernel
theorem dX5_begin_51 : decode cX5_begin 51 = .ok (.iload_n 1, 1) := by decide +kernel
theorem dX5_begin_52 : decode cX5_begin 52 = .ok (.aload_n 0, 1) := by decide +kernel
theorem dX5_begin_53 : decode cX5_begin 53 = .ok (.getfield 44, 3) := by decide +kernel
theorem dX5_begin_56 : decode cX5_begin 56 = .ok (.getfield 68, 3) := by decide +kernel
theorem dX5_begin_59 : decode cX5_begin 59 = .ok (.if_icmp .ge 49, 3) := by decide +kernel
theorem dX5_begin_62 : decode cX5_begin 62 = .ok (.aload_n 0, 1) := by decide +kernel
theorem dX5_begin_63 : decode cX5_begin 63 = .ok (.getfield 36, 3) := by decide +kernel
theorem dX5_begin_66 : decode cX5_begin 66 = .ok (.bipush 8, 2) := by decide +kernel
theorem dX5_begin_68 : decode cX5_begin 68 = .ok (.if_icmp .ge 40, 3) := by decide +kernel
theorem dX5_begin_71 : decode cX5_begin 71 = .ok (.aload_n 0, 1) := by decide +kernel
theorem dX5_begin_72 : decode cX5_begin 72 = .ok (.getfield 44, 3) := by decide +kernel
theorem dX5_begin_75 : decode cX5_begin 75 = .ok (.iload_n 1, 1) := by decide +kernel
theorem dX5_begin_76 : decode cX5_begin 76 = .ok (.invokevirtual 71, 3) := by decide +kernel
theorem dX5_begin_79 : decode cX5_begin 79 = .ok (.ifCond .eq 23, 3) := by decide +kernel
theorem dX5_begin_82 : decode cX5_begin 82 = .ok (.aload_n 0, 1) := by decide +kernel
theorem dX5_begin_83 : decode cX5_begin 83 = .ok (.getfield 20, 3) := by decide +kernel
theorem dX5_begin_86 : decode cX5_begin 86 = .ok (.aload_n 0, 1) := by decide +kernel
theorem dX5_begin_87 : decode cX5_begin 87 = .ok (.getfield 36, 3) := by decide +kernel
theorem dX5_begin_90 : decode cX5_begin 90 = .ok (.iload_n 1, 1) := by decide +kernel
theorem dX5_begin_91 : decode cX5_begin 91 = .ok (.iastore, 1) := by decide +kernel
theorem dX5_begin_92 : decode cX5_begin 92 = .ok (.aload_n 0, 1) := by decide +kernel
theorem dX5_begin_93 : decode cX5_begin 93 = .ok (.dup, 1) := by decide +kernel
theorem dX5_begin_94 : decode cX5_begin 94 = .ok (.getfield 36, 3) := by decide +kernel
theorem dX5_begin_97 : decode cX5_begin 97 = .ok (.iconst 1, 1) := by decide +kernel
theorem dX5_begin_98 : decode cX5_begin 98 = .ok (.iadd, 1) := by decide +kernel
theorem dX5_begin_99 : decode cX5_begin 99 = .ok (.putfield 36, 3) := by decide +kernel
theorem dX5_begin_102 : decode cX5_begin 102 = .ok (.iinc 1 1, 3) := by decide +kernel
theorem dX5_begin_105 : decode cX5_begin 105 = .ok (.goto (-54), 3) := by decide +kernel
theorem dX5_begin_108 : decode cX5_begin 108 = .ok (.return_, 1) := by decide +kernel
theorem dX5_tie_0 : decode cX5_tie 0 = .ok (.aload_n 1, 1) := by decide +kernel
theorem dX5_tie_1 : decode cX5_tie 1 = .ok (.iload_n 2, 1) := by decide +kernel
theorem dX5_tie_2 : decode cX5_tie 2 = .ok (.dup2, 1) := by decide +kernel
theorem dX5_tie_3 : decode cX5_tie 3 = .ok (.iaload, 1) := by decide +kernel
theorem dX5_tie_4 : decode cX5_tie 4 = .ok (.iconst 1, 1) := by decide +kernel
theorem dX5_tie_5 : decode cX5_tie 5 = .ok (.iload_n 3, 1) := by decide +kernel
theorem dX5_tie_6 : decode cX5_tie 6 = .ok (.ishl, 1) := by decide +kernel
theorem dX5_tie_7 : decode cX5_tie 7 = .ok (.ior, 1) := by decide +kernel
theorem dX5_tie_8 : decode cX5_tie 8 = .ok (.iastore, 1) := by decide +kernel
theorem dX5_tie_9 : decode cX5_tie 9 = .ok (.aload_n 1, 1) := by decide +kernel
theorem dX5_tie_10 : decode cX5_tie 10 = .ok (.iload_n 3, 1) := by decide +kernel
theorem dX5_tie_11 : decode cX5_tie 11 = .ok (.dup2, 1) := by decide +kernel
theorem dX5_tie_12 : decode cX5_tie 12 = .ok (.iaload, 1) := by decide +kernel
theorem dX5_tie_13 : decode cX5_tie 13 = .ok (.iconst 1, 1) := by decide +kernel
theorem dX5_tie_14 : decode cX5_tie 14 = .ok (.iload_n 2, 1) := by decide +kernel
theorem dX5_tie_15 : decode cX5_tie 15 = .ok (.ishl, 1) := by decide +kernel
theorem dX5_tie_16 : decode cX5_tie 16 = .ok (.ior, 1) := by decide +kernel
theorem dX5_tie_17 : decode cX5_tie 17 = .ok (.iastore, 1) := by decide +kernel
theorem dX5_tie_18 : decode cX5_tie 18 = .ok (.return_, 1) := by decide +kernel
set_option maxRecDepth 20000 in
theorem ggX5_run_X5_isHungTogether : GoodIn wsX5_run wsX5_isHungTogether := goodIn_r _ [10, 1, 11, 3, 12, 45, 46, 47, 48, 49, 50, 51, 52, 53, 54, 55, 56, 57, 58, 59, 60, 61, 62, 63, 64, 65] (by decide +kernel) (by decide +kernel)
set_option maxRecDepth 20000 in
theorem gX5_run_X5_isHungTogether : GoodIn wsX5_run (wsV RX5 75 RX5 yX5_isHungTogether wsX5_isHungTogether) := goodIn_app (goodIn_of _ (by decide +kernel)) ggX5_run_X5_isHungTogether
set_option maxRecDepth 20000 in
theorem ggX5_run_X5_extend : GoodIn wsX5_run wsX5_extend := goodIn_r _ [16, 1, 2, 3, 11, 4, 17, 18, 19, 9, 20, 21, 22, 23, 24, 25, 26, 27, 28, 29, 30, 31, 32, 33, 34, 35, 36, 37, 38, 39, 40, 41, 42, 43, 44, 13, 14, 15, 45, 46, 47, 48, 49, 50, 51, 52, 53, 54, 55, 56, 57, 58, 59, 60, 61, 62, 63, 64, 65] (by decide +kernel) (by decide +kernel)
set_option maxRecDepth 20000 in
theorem gX5_run_X5_extend : GoodIn wsX5_run (wsV RX5 79 RX5 yX5_extend wsX5_extend) := goodIn_app (goodIn_of _ (by decide +kernel)) ggX5_run_X5_extend
theorem dX5_run_0 : decode cX5_run 0 = .ok (.aload_n 0, 1) := by decide +kernel
theorem dX5_run_1 : decode cX5_run 1 = .ok (.getfield 36, 3) := by decide +kernel
theorem dX5_run_4 : decode cX5_run 4 = .ok (.iconst 3, 1) := by decide +kernel
theorem dX5_run_5 : decode cX5_run 5 = .ok (.if_icmp .lt 10, 3) := by decide +kernel
theorem dX5_run_8 : decode cX5_run 8 = .ok (.aload_n 0, 1) := by decide +kernel
theorem dX5_run_9 : decode cX5_run 9 = .ok (.invokevirtual 75, 3) := by decide +kernel
theorem dX5_run_12 : decode cX5_run 12 = .ok (.ifCond .ne 5, 3) := by decide +kernel
theorem dX5_run_15 : decode cX5_run 15 = .ok (.iconst 0, 1) := by decide +kernel
theorem dX5_run_16 : decode cX5_run 16 = .ok (.ireturn, 1) := by decide +kernel
theorem dX5_run_17 : decode cX5_run 17 = .ok (.aload_n 0, 1) := by decide +kernel
theorem dX5_run_18 : decode cX5_run 18 = .ok (.getfield 23, 3) := by decide +kernel
theorem dX5_run_21 : decode cX5_run 21 = .ok (.iconst 0, 1) := by decide +kernel
theorem dX5_run_22 : decode cX5_run 22 = .ok (.aload_n 0, 1) := by decide +kernel
theorem dX5_run_23 : decode cX5_run 23 = .ok (.getfield 20, 3) := by decide +kernel
theorem dX5_run_26 : decode cX5_run 26 = .ok (.iconst 0, 1) := by decide +kernel
theorem dX5_run_27 : decode cX5_run 27 = .ok (.iaload, 1) := by decide +kernel
theorem dX5_run_28 : decode cX5_run 28 = .ok (.iastore, 1) := by decide +kernel
theorem dX5_run_29 : decode cX5_run 29 = .ok (.aload_n 0, 1) := by decide +kernel
theorem dX5_run_30 : decode cX5_run 30 = .ok (.iconst 1, 1) := by decide +kernel
theorem dX5_run_31 : decode cX5_run 31 = .ok (.iconst 1, 1) := by decide +kernel
theorem dX5_run_32 : decode cX5_run 32 = .ok (.aload_n 0, 1) := by decide +kernel
theorem dX5_run_33 : decode cX5_run 33 = .ok (.getfield 20, 3) := by decide +kernel
theorem dX5_run_36 : decode cX5_run 36 = .ok (.iconst 0, 1) := by decide +kernel
theorem dX5_run_37 : decode cX5_run 37 = .ok (.iaload, 1) := by decide +kernel
theorem dX5_run_38 : decode cX5_run 38 = .ok (.ishl, 1) := by decide +kernel
theorem dX5_run_39 : decode cX5_run 39 = .ok (.iconst 0, 1) := by decide +kernel
theorem dX5_run_40 : decode cX5_run 40 = .ok (.invokevirtual 79, 3) := by decide +kernel
theorem dX5_run_43 : decode cX5_run 43 = .ok (.aload_n 0, 1) := by decide +kernel
theorem dX5_run_44 : decode cX5_run 44 = .ok (.getfield 41, 3) := by decide +kernel
theorem dX5_run_47 : decode cX5_run 47 = .ok (.ldc 40, 2) := by decide +kernel
theorem dX5_run_49 : decode cX5_run 49 = .ok (.if_icmp .eq 7, 3) := by decide +kernel
theorem dX5_run_52 : decode cX5_run 52 = .ok (.iconst 1, 1) := by decide +kernel
theorem dX5_run_53 : decode cX5_run 53 = .ok (.goto 4, 3) := by decide +kernel
theorem dX5_run_56 : decode cX5_run 56 = .ok (.iconst 0, 1) := by decide +kernel
theorem dX5_run_57 : decode cX5_run 57 = .ok (.ireturn, 1) := by decide +kernel
theorem dX5_isHungTogether_0 : decode cX5_isHungTogether 0 = .ok (.iconst 1, 1) := by decide +kernel
theorem dX5_isHungTogether_1 : decode cX5_isHungTogether 1 = .ok (.istore_n 1, 1) := by decide +kernel
theorem dX5_isHungTogether_2 : decode cX5_isHungTogether 2 = .ok (.iload_n 1, 1) := by decide +kernel
theorem dX5_isHungTogether_3 : decode cX5_isHungTogether 3 = .ok (.aload_n 0, 1) := by decide +kernel
theorem dX5_isHungTogether_4 : decode cX5_isHungTogether 4 = .ok (.getfield 36, 3) := by decide +kernel
theorem dX5_isHungTogether_7 : decode cX5_isHungTogether 7 = .ok (.if_icmp .ge 37, 3) := by decide +kernel
theorem dX5_isHungTogether_10 : decode cX5_isHungTogether 10 = .ok (.aload_n 0, 1) := by decide +kernel
theorem dX5_isHungTogether_11 : decode cX5_isHungTogether 11 = .ok (.getfield 44, 3) := by decide +kernel
theorem dX5_isHungTogether_14 : decode cX5_isHungTogether 14 = .ok (.getfield 83, 3) := by decide +kernel
theorem dX5_isHungTogether_17 : decode cX5_isHungTogether 17 = .ok (.aload_n 0, 1) := by decide +kernel
theorem dX5_isHungTogether_18 : decode cX5_isHungTogether 18 = .ok (.getfield 20, 3) := by decide +kernel
theorem dX5_isHungTogether_21 : decode cX5_isHungTogether 21 = .ok (.iconst 0, 1) := by decide +kernel
theorem dX5_isHungTogether_22 : decode cX5_isHungTogether 22 = .ok (.iaload, 1) := by decide +kernel
theorem dX5_isHungTogether_23 : decode cX5_isHungTogether 23 = .ok (.aaload, 1) := by decide +kernel
theorem dX5_isHungTogether_24 : decode cX5_isHungTogether 24 = .ok (.aload_n 0, 1) := by decide +kernel
theorem dX5_isHungTogether_25 : decode cX5_isHungTogether 25 = .ok (.getfield 20, 3) := by decide +kernel
theorem dX5_isHungTogether_28 : decode cX5_isHungTogether 28 = .ok (.iload_n 1, 1) := by decide +kernel
theorem dX5_isHungTogether_29 : decode cX5_isHungTogether 29 = .ok (.iaload, 1) := by decide +kernel
theorem dX5_isHungTogether_30 : decode cX5_isHungTogether 30 = .ok (.iaload, 1) := by decide +kernel
theorem dX5_isHungTogether_31 : decode cX5_isHungTogether 31 = .ok (.ldc 87, 2) := by decide +kernel
theorem dX5_isHungTogether_33 : decode cX5_isHungTogether 33 = .ok (.if_icmp .ne 5, 3) := by decide +kernel
theorem dX5_isHungTogether_36 : decode cX5_isHungTogether 36 = .ok (.iconst 0, 1) := by decide +kernel
theorem dX5_isHungTogether_37 : decode cX5_isHungTogether 37 = .ok (.ireturn, 1) := by decide +kernel
theorem dX5_isHungTogether_38 : decode cX5_isHungTogether 38 = .ok (.iinc 1 1, 3) := by decide +kernel
theorem dX5_isHungTogether_41 : decode cX5_isHungTogether 41 = .ok (.goto (-39), 3) := by decide +kernel
theorem dX5_isHungTogether_44 : decode cX5_isHungTogether 44 = .ok (.iconst 1, 1) := by decide +kernel
theorem dX5_isHungTogether_45 : decode cX5_isHungTogether 45 = .ok (.ireturn, 1) := by decide +kernel
set_option maxRecDepth 20000 in
theorem ggX5_extend_X5_finish : GoodIn wsX5_extend wsX5_finish := goodIn_r _ [10, 2, 1, 4, 5, 11, 12, 13, 14, 15, 16, 17, 18, 19, 20, 21, 22, 23, 9, 24, 25, 26, 27, 28, 29, 30, 38, 39, 40, 41, 42, 43, 44, 45, 46, 47, 48, 49, 50, 51, 52, 53, 54, 55, 56, 57, 58] (by decide +kernel) (by decide +kernel)
set_option maxRecDepth 20000 in
theorem gX5_extend_X5_finish : GoodIn wsX5_extend (wsV RX5 88 RX5 yX5_finish wsX5_finish) := goodIn_app (goodIn_of _ (by decide +kernel)) ggX5_extend_X5_finish
set_option maxRecDepth 20000 in
theorem ggX5_extend_X9_isIn : GoodIn wsX5_extend wsX9_isIn := goodIn_r _ [20] (by decide +kernel) (by decide +kernel)
set_option maxRecDepth 20000 in
theorem gX5_extend_X9_isIn_n92 : GoodIn wsX5_extend (wsX9_isIn) := ggX5_extend_X9_isIn
set_option maxRecDepth 20000 in
theorem ggX5_extend_X5_mayFollow : GoodIn wsX5_extend wsX5_mayFollow := goodIn_r _ [34, 11, 2, 18, 19, 20, 21, 22, 23, 9, 24, 25, 38, 39, 40, 41, 42, 43, 44, 45, 46, 47] (by decide +kernel) (by decide +kernel)
set_option maxRecDepth 20000 in
theorem gX5_extend_X5_mayFollow : GoodIn wsX5_extend (wsV RX5 96 RX5 yX5_mayFollow wsX5_mayFollow) := goodIn_app (goodIn_of _ (by decide +kernel)) ggX5_extend_X5_mayFollow
set_option maxRecDepth 20000 in
theorem ggX5_extend_X5_extend : GoodIn wsX5_extend wsX5_extend := goodIn_r _ [0, 1, 2, 3, 4, 5, 6, 7, 8, 9, 10, 11, 12, 13, 14, 15, 16, 17, 18, 19, 20, 21, 22, 23, 24, 25, 26, 27, 28, 29, 30, 31, 32, 33, 34, 35, 36, 37, 38, 39, 40, 41, 42, 43, 44, 45, 46, 47, 48, 49, 50, 51, 52, 53, 54, 55, 56, 57, 58] (by decide +kernel) (by decide +kernel)
set_option maxRecDepth 20000 in
theorem gX5_extend_X5_extend : GoodIn wsX5_extend (wsV RX5 79 RX5 yX5_extend wsX5_extend) := goodIn_app (goodIn_of _ (by decide +kernel)) ggX5_extend_X5_extend
theorem dX5_extend_0 : decode cX5_extend 0 = .ok (.iload_n 1, 1) := by decide +kernel
theorem dX5_extend_1 : decode cX5_extend 1 = .ok (.aload_n 0, 1) := by decide +kernel
theorem dX5_extend_2 : decode cX5_extend 2 = .ok (.getfield 36, 3) := by decide +kernel
theorem dX5_extend_5 : decode cX5_extend 5 = .ok (.if_icmp .lt 9, 3) := by decide +kernel
theorem dX5_extend_8 : decode cX5_extend 8 = .ok (.aload_n 0, 1) := by decide +kernel
theorem dX5_extend_9 : decode cX5_extend 9 = .ok (.iload_n 3, 1) := by decide +kernel
theorem dX5_extend_10 : decode cX5_extend 10 = .ok (.invokevirtual 88, 3) := by decide +kernel
theorem dX5_extend_13 : decode cX5_extend 13 = .ok (.return_, 1) := by decide +kernel
theorem dX5_extend_14 : decode cX5_extend 14 = .ok (.aload_n 0, 1) := by decide +kernel
theorem dX5_extend_15 : decode cX5_extend 15 = .ok (.getfield 23, 3) := by decide +kernel
theorem dX5_extend_18 : decode cX5_extend 18 = .ok (.iload_n 1, 1) := by decide +kernel
theorem dX5_extend_19 : decode cX5_extend 19 = .ok (.iconst 1, 1) := by decide +kernel
theorem dX5_extend_20 : decode cX5_extend 20 = .ok (.isub, 1) := by decide +kernel
theorem dX5_extend_21 : decode cX5_extend 21 = .ok (.iaload, 1) := by decide +kernel
theorem dX5_extend_22 : decode cX5_extend 22 = .ok (.istore 4, 2) := by decide +kernel
theorem dX5_extend_24 : decode cX5_extend 24 = .ok (.iconst 1, 1) := by decide +kernel
theorem dX5_extend_25 : decode cX5_extend 25 = .ok (.istore 5, 2) := by decide +kernel
theorem dX5_extend_27 : decode cX5_extend 27 = .ok (.iload 5, 2) := by decide +kernel
theorem dX5_extend_29 : decode cX5_extend 29 = .ok (.aload_n 0, 1) := by decide +kernel
theorem dX5_extend_30 : decode cX5_extend 30 = .ok (.getfield 36, 3) := by decide +kernel
theorem dX5_extend_33 : decode cX5_extend 33 = .ok (.if_icmp .ge 106, 3) := by decide +kernel
theorem dX5_extend_36 : decode cX5_extend 36 = .ok (.aload_n 0, 1) := by decide +kernel
theorem dX5_extend_37 : decode cX5_extend 37 = .ok (.getfield 20, 3) := by decide +kernel
theorem dX5_extend_40 : decode cX5_extend 40 = .ok (.iload 5, 2) := by decide +kernel
theorem dX5_extend_42 : decode cX5_extend 42 = .ok (.iaload, 1) := by decide +kernel
theorem dX5_extend_43 : decode cX5_extend 43 = .ok (.istore 6, 2) := by decide +kernel
theorem dX5_extend_45 : decode cX5_extend 45 = .ok (.iload_n 2, 1) := by decide +kernel
theorem dX5_extend_46 : decode cX5_extend 46 = .ok (.iload 6, 2) := by decide +kernel
theorem dX5_extend_48 : decode cX5_extend 48 = .ok (.invokestatic 92, 3) := by decide +kernel
theorem dX5_extend_51 : decode cX5_extend 51 = .ok (.ifCond .ne 82, 3) := by decide +kernel
theorem dX5_extend_54 : decode cX5_extend 54 = .ok (.aload_n 0, 1) := by decide +kernel
theorem dX5_extend_55 : decode cX5_extend 55 = .ok (.iload_n 1, 1) := by decide +kernel
theorem dX5_extend_56 : decode cX5_extend 56 = .ok (.iload 4, 2) := by decide +kernel
theorem dX5_extend_58 : decode cX5_extend 58 = .ok (.iload 6, 2) := by decide +kernel
theorem dX5_extend_60 : decode cX5_extend 60 = .ok (.invokevirtual 96, 3) := by decide +kernel
theorem dX5_extend_63 : decode cX5_extend 63 = .ok (.ifCond .eq 70, 3) := by decide +kernel
