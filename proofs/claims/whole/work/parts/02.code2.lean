theorem dX8_sumOfCase_22 : decode cX8_sumOfCase 22 = .ok (.getfield 19, 3) := by decide +kernel
theorem dX8_sumOfCase_25 : decode cX8_sumOfCase 25 = .ok (.iload_n 1, 1) := by decide +kernel
theorem dX8_sumOfCase_26 : decode cX8_sumOfCase 26 = .ok (.iaload, 1) := by decide +kernel
theorem dX8_sumOfCase_27 : decode cX8_sumOfCase 27 = .ok (.aload_n 0, 1) := by decide +kernel
theorem dX8_sumOfCase_28 : decode cX8_sumOfCase 28 = .ok (.getfield 36, 3) := by decide +kernel
theorem dX8_sumOfCase_31 : decode cX8_sumOfCase 31 = .ok (.getfield 129, 3) := by decide +kernel
theorem dX8_sumOfCase_34 : decode cX8_sumOfCase 34 = .ok (.if_icmp .eq 7, 3) := by decide +kernel
theorem dX8_sumOfCase_37 : decode cX8_sumOfCase 37 = .ok (.ldc2_w 132, 3) := by decide +kernel
theorem dX8_sumOfCase_40 : decode cX8_sumOfCase 40 = .ok (.lreturn, 1) := by decide +kernel
theorem dX8_sumOfCase_41 : decode cX8_sumOfCase 41 = .ok (.aload_n 0, 1) := by decide +kernel
theorem dX8_sumOfCase_42 : decode cX8_sumOfCase 42 = .ok (.getfield 32, 3) := by decide +kernel
theorem dX8_sumOfCase_45 : decode cX8_sumOfCase 45 = .ok (.lstore_n 2, 1) := by decide +kernel
theorem dX8_sumOfCase_46 : decode cX8_sumOfCase 46 = .ok (.iconst 0, 1) := by decide +kernel
theorem dX8_sumOfCase_47 : decode cX8_sumOfCase 47 = .ok (.istore 4, 2) := by decide +kernel
theorem dX8_sumOfCase_49 : decode cX8_sumOfCase 49 = .ok (.iload 4, 2) := by decide +kernel
theorem dX8_sumOfCase_51 : decode cX8_sumOfCase 51 = .ok (.aload_n 0, 1) := by decide +kernel
theorem dX8_sumOfCase_52 : decode cX8_sumOfCase 52 = .ok (.getfield 36, 3) := by decide +kernel
theorem dX8_sumOfCase_55 : decode cX8_sumOfCase 55 = .ok (.getfield 44, 3) := by decide +kernel
theorem dX8_sumOfCase_58 : decode cX8_sumOfCase 58 = .ok (.if_icmp .ge 39, 3) := by decide +kernel
theorem dX8_sumOfCase_61 : decode cX8_sumOfCase 61 = .ok (.aload_n 0, 1) := by decide +kernel
theorem dX8_sumOfCase_62 : decode cX8_sumOfCase 62 = .ok (.getfield 36, 3) := by decide +kernel
theorem dX8_sumOfCase_65 : decode cX8_sumOfCase 65 = .ok (.iload 4, 2) := by decide +kernel
theorem dX8_sumOfCase_67 : decode cX8_sumOfCase 67 = .ok (.invokevirtual 49, 3) := by decide +kernel
theorem dX8_sumOfCase_70 : decode cX8_sumOfCase 70 = .ok (.ifCond .eq 21, 3) := by decide +kernel
theorem dX8_sumOfCase_73 : decode cX8_sumOfCase 73 = .ok (.lload_n 2, 1) := by decide +kernel
theorem dX8_sumOfCase_74 : decode cX8_sumOfCase 74 = .ok (.ldc2_w 134, 3) := by decide +kernel
theorem dX8_sumOfCase_77 : decode cX8_sumOfCase 77 = .ok (.aload_n 0, 1) := by decide +kernel
theorem dX8_sumOfCase_78 : decode cX8_sumOfCase 78 = .ok (.getfield 36, 3) := by decide +kernel
theorem dX8_sumOfCase_81 : decode cX8_sumOfCase 81 = .ok (.getfield 77, 3) := by decide +kernel
theorem dX8_sumOfCase_84 : decode cX8_sumOfCase 84 = .ok (.iload 4, 2) := by decide +kernel
theorem dX8_sumOfCase_86 : decode cX8_sumOfCase 86 = .ok (.iaload, 1) := by decide +kernel
theorem dX8_sumOfCase_87 : decode cX8_sumOfCase 87 = .ok (.i2l, 1) := by decide +kernel
theorem dX8_sumOfCase_88 : decode cX8_sumOfCase 88 = .ok (.lmul, 1) := by decide +kernel
theorem dX8_sumOfCase_89 : decode cX8_sumOfCase 89 = .ok (.lsub, 1) := by decide +kernel
theorem dX8_sumOfCase_90 : decode cX8_sumOfCase 90 = .ok (.lstore_n 2, 1) := by decide +kernel
theorem dX8_sumOfCase_91 : decode cX8_sumOfCase 91 = .ok (.iinc 4 1, 3) := by decide +kernel
theorem dX8_sumOfCase_94 : decode cX8_sumOfCase 94 = .ok (.goto (-45), 3) := by decide +kernel
theorem dX8_sumOfCase_97 : decode cX8_sumOfCase 97 = .ok (.lload_n 2, 1) := by decide +kernel
theorem dX8_sumOfCase_98 : decode cX8_sumOfCase 98 = .ok (.lreturn, 1) := by decide +kernel
set_option maxRecDepth 20000 in
theorem ggX8_raisePrices_X2_isLive : GoodIn wsX8_raisePrices wsX2_isLive := goodIn_r _ [8, 9, 10, 11, 12, 7, 13, 14, 15, 16, 17, 31, 32, 33, 34, 35, 36, 37, 38, 39, 40, 41] (by decide +kernel) (by decide +kernel)
set_option maxRecDepth 20000 in
theorem gX8_raisePrices_X2_isLive : GoodIn wsX8_raisePrices (wsV RX8 49 RX2 yX2_isLive wsX2_isLive) := goodIn_app (goodIn_of _ (by decide +kernel)) ggX8_raisePrices_X2_isLive
set_option maxRecDepth 20000 in
theorem ggX8_raisePrices_X9_lesserOf : GoodIn wsX8_raisePrices wsX9_lesserOf := goodIn_r _ [19] (by decide +kernel) (by decide +kernel)
set_option maxRecDepth 20000 in
theorem gX8_raisePrices_X9_lesserOf_n64 : GoodIn wsX8_raisePrices (wsX9_lesserOf) := ggX8_raisePrices_X9_lesserOf
set_option maxRecDepth 20000 in
theorem ggX8_raisePrices_X9_greaterOf : GoodIn wsX8_raisePrices wsX9_greaterOf := goodIn_r _ [21] (by decide +kernel) (by decide +kernel)
set_option maxRecDepth 20000 in
theorem gX8_raisePrices_X9_greaterOf_n67 : GoodIn wsX8_raisePrices (wsX9_greaterOf) := ggX8_raisePrices_X9_greaterOf
theorem dX8_raisePrices_0 : decode cX8_raisePrices 0 = .ok (.iconst 0, 1) := by decide +kernel
theorem dX8_raisePrices_1 : decode cX8_raisePrices 1 = .ok (.istore_n 1, 1) := by decide +kernel
theorem dX8_raisePrices_2 : decode cX8_raisePrices 2 = .ok (.iload_n 1, 1) := by decide +kernel
theorem dX8_raisePrices_3 : decode cX8_raisePrices 3 = .ok (.aload_n 0, 1) := by decide +kernel
theorem dX8_raisePrices_4 : decode cX8_raisePrices 4 = .ok (.getfield 36, 3) := by decide +kernel
theorem dX8_raisePrices_7 : decode cX8_raisePrices 7 = .ok (.getfield 44, 3) := by decide +kernel
theorem dX8_raisePrices_10 : decode cX8_raisePrices 10 = .ok (.if_icmp .ge 33, 3) := by decide +kernel
theorem dX8_raisePrices_13 : decode cX8_raisePrices 13 = .ok (.aload_n 0, 1) := by decide +kernel
theorem dX8_raisePrices_14 : decode cX8_raisePrices 14 = .ok (.getfield 36, 3) := by decide +kernel
theorem dX8_raisePrices_17 : decode cX8_raisePrices 17 = .ok (.iload_n 1, 1) := by decide +kernel
theorem dX8_raisePrices_18 : decode cX8_raisePrices 18 = .ok (.invokevirtual 49, 3) := by decide +kernel
theorem dX8_raisePrices_21 : decode cX8_raisePrices 21 = .ok (.ifCond .eq 16, 3) := by decide +kernel
theorem dX8_raisePrices_24 : decode cX8_raisePrices 24 = .ok (.aload_n 0, 1) := by decide +kernel
theorem dX8_raisePrices_25 : decode cX8_raisePrices 25 = .ok (.getfield 36, 3) := by decide +kernel
theorem dX8_raisePrices_28 : decode cX8_raisePrices 28 = .ok (.getfield 77, 3) := by decide +kernel
theorem dX8_raisePrices_31 : decode cX8_raisePrices 31 = .ok (.iload_n 1, 1) := by decide +kernel
theorem dX8_raisePrices_32 : decode cX8_raisePrices 32 = .ok (.dup2, 1) := by decide +kernel
theorem dX8_raisePrices_33 : decode cX8_raisePrices 33 = .ok (.iaload, 1) := by decide +kernel
theorem dX8_raisePrices_34 : decode cX8_raisePrices 34 = .ok (.iconst 2, 1) := by decide +kernel
theorem dX8_raisePrices_35 : decode cX8_raisePrices 35 = .ok (.isub, 1) := by decide +kernel
theorem dX8_raisePrices_36 : decode cX8_raisePrices 36 = .ok (.iastore, 1) := by decide +kernel
theorem dX8_raisePrices_37 : decode cX8_raisePrices 37 = .ok (.iinc 1 1, 3) := by decide +kernel
theorem dX8_raisePrices_40 : decode cX8_raisePrices 40 = .ok (.goto (-38), 3) := by decide +kernel
theorem dX8_raisePrices_43 : decode cX8_raisePrices 43 = .ok (.iconst 0, 1) := by decide +kernel
theorem dX8_raisePrices_44 : decode cX8_raisePrices 44 = .ok (.istore_n 1, 1) := by decide +kernel
theorem dX8_raisePrices_45 : decode cX8_raisePrices 45 = .ok (.iload_n 1, 1) := by decide +kernel
theorem dX8_raisePrices_46 : decode cX8_raisePrices 46 = .ok (.aload_n 0, 1) := by decide +kernel
theorem dX8_raisePrices_47 : decode cX8_raisePrices 47 = .ok (.getfield 26, 3) := by decide +kernel
theorem dX8_raisePrices_50 : decode cX8_raisePrices 50 = .ok (.if_icmp .ge 51, 3) := by decide +kernel
theorem dX8_raisePrices_53 : decode cX8_raisePrices 53 = .ok (.aload_n 0, 1) := by decide +kernel
theorem dX8_raisePrices_54 : decode cX8_raisePrices 54 = .ok (.getfield 36, 3) := by decide +kernel
theorem dX8_raisePrices_57 : decode cX8_raisePrices 57 = .ok (.getfield 77, 3) := by decide +kernel
theorem dX8_raisePrices_60 : decode cX8_raisePrices 60 = .ok (.aload_n 0, 1) := by decide +kernel
theorem dX8_raisePrices_61 : decode cX8_raisePrices 61 = .ok (.getfield 15, 3) := by decide +kernel
theorem dX8_raisePrices_64 : decode cX8_raisePrices 64 = .ok (.iload_n 1, 1) := by decide +kernel
theorem dX8_raisePrices_65 : decode cX8_raisePrices 65 = .ok (.iaload, 1) := by decide +kernel
theorem dX8_raisePrices_66 : decode cX8_raisePrices 66 = .ok (.invokestatic 64, 3) := by decide +kernel
theorem dX8_raisePrices_69 : decode cX8_raisePrices 69 = .ok (.dup2, 1) := by decide +kernel
theorem dX8_raisePrices_70 : decode cX8_raisePrices 70 = .ok (.iaload, 1) := by decide +kernel
theorem dX8_raisePrices_71 : decode cX8_raisePrices 71 = .ok (.iconst 1, 1) := by decide +kernel
theorem dX8_raisePrices_72 : decode cX8_raisePrices 72 = .ok (.iadd, 1) := by decide +kernel
theorem dX8_raisePrices_73 : decode cX8_raisePrices 73 = .ok (.iastore, 1) := by decide +kernel
theorem dX8_raisePrices_74 : decode cX8_raisePrices 74 = .ok (.aload_n 0, 1) := by decide +kernel
theorem dX8_raisePrices_75 : decode cX8_raisePrices 75 = .ok (.getfield 36, 3) := by decide +kernel
theorem dX8_raisePrices_78 : decode cX8_raisePrices 78 = .ok (.getfield 77, 3) := by decide +kernel
theorem dX8_raisePrices_81 : decode cX8_raisePrices 81 = .ok (.aload_n 0, 1) := by decide +kernel
theorem dX8_raisePrices_82 : decode cX8_raisePrices 82 = .ok (.getfield 15, 3) := by decide +kernel
theorem dX8_raisePrices_85 : decode cX8_raisePrices 85 = .ok (.iload_n 1, 1) := by decide +kernel
theorem dX8_raisePrices_86 : decode cX8_raisePrices 86 = .ok (.iaload, 1) := by decide +kernel
theorem dX8_raisePrices_87 : decode cX8_raisePrices 87 = .ok (.invokestatic 67, 3) := by decide +kernel
theorem dX8_raisePrices_90 : decode cX8_raisePrices 90 = .ok (.dup2, 1) := by decide +kernel
theorem dX8_raisePrices_91 : decode cX8_raisePrices 91 = .ok (.iaload, 1) := by decide +kernel
theorem dX8_raisePrices_92 : decode cX8_raisePrices 92 = .ok (.iconst 1, 1) := by decide +kernel
theorem dX8_raisePrices_93 : decode cX8_raisePrices 93 = .ok (.iadd, 1) := by decide +kernel
theorem dX8_raisePrices_94 : decode cX8_raisePrices 94 = .ok (.iastore, 1) := by decide +kernel
theorem dX8_raisePrices_95 : decode cX8_raisePrices 95 = .ok (.iinc 1 1, 3) := by decide +kernel
theorem dX8_raisePrices_98 : decode cX8_raisePrices 98 = .ok (.goto (-53), 3) := by decide +kernel
theorem dX8_raisePrices_101 : decode cX8_raisePrices 101 = .ok (.return_, 1) := by decide +kernel
set_option maxRecDepth 20000 in
theorem ggX9_init_X4_init : GoodIn wsX9_init wsX4_init := goodIn_r _ [43, 44, 2, 3, 45, 46, 47, 48, 49, 50, 51, 52, 53, 54, 141, 142, 143] (by decide +kernel) (by decide +kernel)
set_option maxRecDepth 20000 in
theorem gX9_init_X4_init : GoodIn wsX9_init (wsX4_init) := ggX9_init_X4_init
set_option maxRecDepth 20000 in
theorem ggX9_init_X7_init : GoodIn wsX9_init wsX7_init := goodIn_r _ [56, 57, 2, 3, 48, 58, 59, 60, 61, 62, 63, 64, 65, 66, 154, 155, 156, 157, 158, 159, 160] (by decide +kernel) (by decide +kernel)
set_option maxRecDepth 20000 in
theorem gX9_init_X7_init_n22 : GoodIn wsX9_init (wsX7_init) := ggX9_init_X7_init
set_option maxRecDepth 20000 in
theorem ggX9_init_X2_init : GoodIn wsX9_init wsX2_init := goodIn_r _ [69, 70, 2, 3, 48, 71, 72, 73, 74, 75, 76, 77, 78, 79, 80, 81, 82, 161, 162, 163, 164, 165, 166, 167, 168, 169, 170, 171] (by decide +kernel) (by decide +kernel)
set_option maxRecDepth 20000 in
theorem gX9_init_X2_init : GoodIn wsX9_init (wsX2_init) := ggX9_init_X2_init
set_option maxRecDepth 20000 in
theorem ggX9_init_X6_init : GoodIn wsX9_init wsX6_init := goodIn_r _ [85, 86, 2, 3, 48, 87, 88, 89, 172, 173, 174] (by decide +kernel) (by decide +kernel)
set_option maxRecDepth 20000 in
theorem gX9_init_X6_init : GoodIn wsX9_init (wsX6_init) := ggX9_init_X6_init
set_option maxRecDepth 20000 in
theorem ggX9_init_X5_init : GoodIn wsX9_init wsX5_init := goodIn_r _ [92, 93, 2, 3, 48, 94, 95, 96, 97, 98, 99, 100, 101, 102, 103, 104, 175, 176, 177, 178, 179, 180, 181, 182, 183, 184] (by decide +kernel) (by decide +kernel)
set_option maxRecDepth 20000 in
theorem gX9_init_X5_init : GoodIn wsX9_init (wsX5_init) := ggX9_init_X5_init
set_option maxRecDepth 20000 in
theorem ggX9_init_X0_init : GoodIn wsX9_init wsX0_init := goodIn_r _ [106, 107, 2, 3, 48, 108, 109, 110, 61, 111, 112, 113, 185, 186, 187, 188, 189, 190] (by decide +kernel) (by decide +kernel)
set_option maxRecDepth 20000 in
theorem gX9_init_X0_init_n54 : GoodIn wsX9_init (wsX0_init) := ggX9_init_X0_init
set_option maxRecDepth 20000 in
theorem ggX9_init_X8_init : GoodIn wsX9_init wsX8_init := goodIn_r _ [116, 117, 2, 3, 46, 118, 48, 119, 120, 121, 122, 123, 124, 125, 126, 191, 192, 193, 194, 195, 196, 197, 198, 199] (by decide +kernel) (by decide +kernel)
set_option maxRecDepth 20000 in
theorem gX9_init_X8_init : GoodIn wsX9_init (wsX8_init) := ggX9_init_X8_init
set_option maxRecDepth 20000 in
theorem ggX9_init_X1_init : GoodIn wsX9_init wsX1_init := goodIn_r _ [129, 130, 2, 3, 131, 132, 133, 200, 201, 202] (by decide +kernel) (by decide +kernel)
set_option maxRecDepth 20000 in
theorem gX9_init_X1_init : GoodIn wsX9_init (wsX1_init) := ggX9_init_X1_init
set_option maxRecDepth 20000 in
theorem ggX9_init_X3_init : GoodIn wsX9_init wsX3_init := goodIn_r _ [135, 136, 2, 3, 48, 137, 138, 139, 140, 203, 204, 205, 206] (by decide +kernel) (by decide +kernel)
set_option maxRecDepth 20000 in
theorem gX9_init_X3_init_n79 : GoodIn wsX9_init (wsX3_init) := ggX9_init_X3_init
theorem dX9_init_0 : decode cX9_init 0 = .ok (.aload_n 0, 1) := by decide +kernel
theorem dX9_init_1 : decode cX9_init 1 = .ok (.invokespecial 7, 3) := by decide +kernel
theorem dX9_init_4 : decode cX9_init 4 = .ok (.aload_n 0, 1) := by decide +kernel
theorem dX9_init_5 : decode cX9_init 5 = .ok (.new 13, 3) := by decide +kernel
theorem dX9_init_8 : decode cX9_init 8 = .ok (.dup, 1) := by decide +kernel
theorem dX9_init_9 : decode cX9_init 9 = .ok (.invokespecial 15, 3) := by decide +kernel
theorem dX9_init_12 : decode cX9_init 12 = .ok (.putfield 16, 3) := by decide +kernel
theorem dX9_init_15 : decode cX9_init 15 = .ok (.aload_n 0, 1) := by decide +kernel
theorem dX9_init_16 : decode cX9_init 16 = .ok (.new 20, 3) := by decide +kernel
theorem dX9_init_19 : decode cX9_init 19 = .ok (.dup, 1) := by decide +kernel
theorem dX9_init_20 : decode cX9_init 20 = .ok (.invokespecial 22, 3) := by decide +kernel
theorem dX9_init_23 : decode cX9_init 23 = .ok (.putfield 23, 3) := by decide +kernel
theorem dX9_init_26 : decode cX9_init 26 = .ok (.aload_n 0, 1) := by decide +kernel
theorem dX9_init_27 : decode cX9_init 27 = .ok (.new 27, 3) := by decide +kernel
theorem dX9_init_30 : decode cX9_init 30 = .ok (.dup, 1) := by decide +kernel
theorem dX9_init_31 : decode cX9_init 31 = .ok (.aload_n 0, 1) := by decide +kernel
theorem dX9_init_32 : decode cX9_init 32 = .ok (.getfield 23, 3) := by decide +kernel
theorem dX9_init_35 : decode cX9_init 35 = .ok (.invokespecial 29, 3) := by decide +kernel
theorem dX9_init_38 : decode cX9_init 38 = .ok (.putfield 32, 3) := by decide +kernel
theorem dX9_init_41 : decode cX9_init 41 = .ok (.aload_n 0, 1) := by decide +kernel
theorem dX9_init_42 : decode cX9_init 42 = .ok (.new 36, 3) := by decide +kernel
theorem dX9_init_45 : decode cX9_init 45 = .ok (.dup, 1) := by decide +kernel
theorem dX9_init_46 : decode cX9_init 46 = .ok (.aload_n 0, 1) := by decide +kernel
theorem dX9_init_47 : decode cX9_init 47 = .ok (.getfield 32, 3) := by decide +kernel
theorem dX9_init_50 : decode cX9_init 50 = .ok (.invokespecial 38, 3) := by decide +kernel
theorem dX9_init_53 : decode cX9_init 53 = .ok (.putfield 41, 3) := by decide +kernel
theorem dX9_init_56 : decode cX9_init 56 = .ok (.aload_n 0, 1) := by decide +kernel
theorem dX9_init_57 : decode cX9_init 57 = .ok (.new 45, 3) := by decide +kernel
theorem dX9_init_60 : decode cX9_init 60 = .ok (.dup, 1) := by decide +kernel
theorem dX9_init_61 : decode cX9_init 61 = .ok (.aload_n 0, 1) := by decide +kernel
theorem dX9_init_62 : decode cX9_init 62 = .ok (.getfield 32, 3) := by decide +kernel
theorem dX9_init_65 : decode cX9_init 65 = .ok (.invokespecial 47, 3) := by decide +kernel
theorem dX9_init_68 : decode cX9_init 68 = .ok (.putfield 48, 3) := by decide +kernel
theorem dX9_init_71 : decode cX9_init 71 = .ok (.aload_n 0, 1) := by decide +kernel
theorem dX9_init_72 : decode cX9_init 72 = .ok (.new 52, 3) := by decide +kernel
theorem dX9_init_75 : decode cX9_init 75 = .ok (.dup, 1) := by decide +kernel
theorem dX9_init_76 : decode cX9_init 76 = .ok (.invokespecial 54, 3) := by decide +kernel
theorem dX9_init_79 : decode cX9_init 79 = .ok (.putfield 55, 3) := by decide +kernel
theorem dX9_init_82 : decode cX9_init 82 = .ok (.aload_n 0, 1) := by decide +kernel
theorem dX9_init_83 : decode cX9_init 83 = .ok (.new 59, 3) := by decide +kernel
theorem dX9_init_86 : decode cX9_init 86 = .ok (.dup, 1) := by decide +kernel
theorem dX9_init_87 : decode cX9_init 87 = .ok (.aload_n 0, 1) := by decide +kernel
theorem dX9_init_88 : decode cX9_init 88 = .ok (.getfield 32, 3) := by decide +kernel
theorem dX9_init_91 : decode cX9_init 91 = .ok (.aload_n 0, 1) := by decide +kernel
theorem dX9_init_92 : decode cX9_init 92 = .ok (.getfield 55, 3) := by decide +kernel
theorem dX9_init_95 : decode cX9_init 95 = .ok (.invokespecial 61, 3) := by decide +kernel
theorem dX9_init_98 : decode cX9_init 98 = .ok (.putfield 64, 3) := by decide +kernel
theorem dX9_init_101 : decode cX9_init 101 = .ok (.aload_n 0, 1) := by decide +kernel
theorem dX9_init_102 : decode cX9_init 102 = .ok (.new 68, 3) := by decide +kernel
theorem dX9_init_105 : decode cX9_init 105 = .ok (.dup, 1) := by decide +kernel
theorem dX9_init_106 : decode cX9_init 106 = .ok (.aload_n 0, 1) := by decide +kernel
theorem dX9_init_107 : decode cX9_init 107 = .ok (.getfield 32, 3) := by decide +kernel
theorem dX9_init_110 : decode cX9_init 110 = .ok (.aload_n 0, 1) := by decide +kernel
theorem dX9_init_111 : decode cX9_init 111 = .ok (.getfield 55, 3) := by decide +kernel
theorem dX9_init_114 : decode cX9_init 114 = .ok (.aload_n 0, 1) := by decide +kernel
theorem dX9_init_115 : decode cX9_init 115 = .ok (.getfield 64, 3) := by decide +kernel
theorem dX9_init_118 : decode cX9_init 118 = .ok (.invokespecial 70, 3) := by decide +kernel
theorem dX9_init_121 : decode cX9_init 121 = .ok (.putfield 73, 3) := by decide +kernel
theorem dX9_init_124 : decode cX9_init 124 = .ok (.aload_n 0, 1) := by decide +kernel
theorem dX9_init_125 : decode cX9_init 125 = .ok (.new 77, 3) := by decide +kernel
theorem dX9_init_128 : decode cX9_init 128 = .ok (.dup, 1) := by decide +kernel
theorem dX9_init_129 : decode cX9_init 129 = .ok (.invokespecial 79, 3) := by decide +kernel
theorem dX9_init_132 : decode cX9_init 132 = .ok (.putfield 80, 3) := by decide +kernel
theorem dX9_init_135 : decode cX9_init 135 = .ok (.aload_n 0, 1) := by decide +kernel
theorem dX9_init_136 : decode cX9_init 136 = .ok (.new 77, 3) := by decide +kernel
theorem dX9_init_139 : decode cX9_init 139 = .ok (.dup, 1) := by decide +kernel
theorem dX9_init_140 : decode cX9_init 140 = .ok (.invokespecial 79, 3) := by decide +kernel
theorem dX9_init_143 : decode cX9_init 143 = .ok (.putfield 84, 3) := by decide +kernel
theorem dX9_init_146 : decode cX9_init 146 = .ok (.return_, 1) := by decide +kernel
set_option maxRecDepth 20000 in
theorem ggX9_lane_X9_isCrossing : GoodIn wsX9_lane wsX9_isCrossing := goodIn_r _ [5] (by decide +kernel) (by decide +kernel)
set_option maxRecDepth 20000 in
theorem gX9_lane_X9_isCrossing : GoodIn wsX9_lane (va_wsS RX9 87 yX9_isCrossing wsX9_isCrossing) := goodIn_app (goodIn_of _ (by decide +kernel)) ggX9_lane_X9_isCrossing
set_option maxRecDepth 20000 in
theorem ggX9_lane_X9_isLength : GoodIn wsX9_lane wsX9_isLength := goodIn_r _ [8, 9] (by decide +kernel) (by decide +kernel)
set_option maxRecDepth 20000 in
theorem gX9_lane_X9_isLength : GoodIn wsX9_lane (va_wsS RX9 91 yX9_isLength wsX9_isLength) := goodIn_app (goodIn_of _ (by decide +kernel)) ggX9_lane_X9_isLength
set_option maxRecDepth 20000 in
theorem ggX9_lane_X7_build : GoodIn wsX9_lane wsX7_build := goodIn_r _ [14, 15, 16, 17, 18, 19, 51, 52, 53, 54, 55, 56, 57] (by decide +kernel) (by decide +kernel)
set_option maxRecDepth 20000 in
theorem gX9_lane_X7_build : GoodIn wsX9_lane (wsV RX9 99 RX7 yX7_build wsX7_build) := goodIn_app (goodIn_of _ (by decide +kernel)) ggX9_lane_X7_build
set_option maxRecDepth 20000 in
theorem ggX9_lane_X9_lanesChanged : GoodIn wsX9_lane wsX9_lanesChanged := goodIn_r _ [23, 1, 24, 25, 26, 13, 27, 28, 29, 30, 31, 4, 32, 33, 34, 35, 36, 37, 38, 39, 40, 41, 42, 43, 44, 45, 46, 47, 48, 49, 50, 51, 52, 53, 54, 55, 56, 57, 58, 59, 60, 61, 62, 63, 64, 65, 66, 67, 68, 69, 70, 71] (by decide +kernel) (by decide +kernel)
set_option maxRecDepth 20000 in
theorem gX9_lane_X9_lanesChanged : GoodIn wsX9_lane (wsV RX9 103 RX9 yX9_lanesChanged wsX9_lanesChanged) := goodIn_app (goodIn_of _ (by decide +kernel)) ggX9_lane_X9_lanesChanged
theorem dX9_lane_0 : decode cX9_lane 0 = .ok (.iload_n 1, 1) := by decide +kernel
theorem dX9_lane_1 : decode cX9_lane 1 = .ok (.invokestatic 87, 3) := by decide +kernel
theorem dX9_lane_4 : decode cX9_lane 4 = .ok (.ifCond .eq 23, 3) := by decide +kernel
theorem dX9_lane_7 : decode cX9_lane 7 = .ok (.iload_n 2, 1) := by decide +kernel
theorem dX9_lane_8 : decode cX9_lane 8 = .ok (.invokestatic 87, 3) := by decide +kernel
theorem dX9_lane_11 : decode cX9_lane 11 = .ok (.ifCond .eq 16, 3) := by decide +kernel
theorem dX9_lane_14 : decode cX9_lane 14 = .ok (.iload_n 1, 1) := by decide +kernel
theorem dX9_lane_15 : decode cX9_lane 15 = .ok (.iload_n 2, 1) := by decide +kernel
theorem dX9_lane_16 : decode cX9_lane 16 = .ok (.if_icmp .eq 11, 3) := by decide +kernel
theorem dX9_lane_19 : decode cX9_lane 19 = .ok (.iload_n 3, 1) := by decide +kernel
theorem dX9_lane_20 : decode cX9_lane 20 = .ok (.i2l, 1) := by decide +kernel
theorem dX9_lane_21 : decode cX9_lane 21 = .ok (.invokestatic 91, 3) := by decide +kernel
theorem dX9_lane_24 : decode cX9_lane 24 = .ok (.ifCond .ne 5, 3) := by decide +kernel
theorem dX9_lane_27 : decode cX9_lane 27 = .ok (.iconst (-1), 1) := by decide +kernel
theorem dX9_lane_28 : decode cX9_lane 28 = .ok (.ireturn, 1) := by decide +kernel
theorem dX9_lane_29 : decode cX9_lane 29 = .ok (.aload_n 0, 1) := by decide +kernel
theorem dX9_lane_30 : decode cX9_lane 30 = .ok (.getfield 23, 3) := by decide +kernel
theorem dX9_lane_33 : decode cX9_lane 33 = .ok (.getfield 95, 3) := by decide +kernel
theorem dX9_lane_36 : decode cX9_lane 36 = .ok (.bipush 100, 2) := by decide +kernel
theorem dX9_lane_38 : decode cX9_lane 38 = .ok (.if_icmp .lt 6, 3) := by decide +kernel
theorem dX9_lane_41 : decode cX9_lane 41 = .ok (.bipush (-2), 2) := by decide +kernel
theorem dX9_lane_43 : decode cX9_lane 43 = .ok (.ireturn, 1) := by decide +kernel
theorem dX9_lane_44 : decode cX9_lane 44 = .ok (.aload_n 0, 1) := by decide +kernel
theorem dX9_lane_45 : decode cX9_lane 45 = .ok (.getfield 23, 3) := by decide +kernel
theorem dX9_lane_48 : decode cX9_lane 48 = .ok (.iload_n 1, 1) := by decide +kernel
theorem dX9_lane_49 : decode cX9_lane 49 = .ok (.iload_n 2, 1) := by decide +kernel
theorem dX9_lane_50 : decode cX9_lane 50 = .ok (.iload_n 3, 1) := by decide +kernel
theorem dX9_lane_51 : decode cX9_lane 51 = .ok (.invokevirtual 99, 3) := by decide +kernel
theorem dX9_lane_54 : decode cX9_lane 54 = .ok (.istore 4, 2) := by decide +kernel
theorem dX9_lane_56 : decode cX9_lane 56 = .ok (.aload_n 0, 1) := by decide +kernel
theorem dX9_lane_57 : decode cX9_lane 57 = .ok (.invokevirtual 103, 3) := by decide +kernel
theorem dX9_lane_60 : decode cX9_lane 60 = .ok (.iload 4, 2) := by decide +kernel
theorem dX9_lane_62 : decode cX9_lane 62 = .ok (.ireturn, 1) := by decide +kernel
set_option maxRecDepth 20000 in
theorem ggX9_open_X7_isLane : GoodIn wsX9_open wsX7_isLane := goodIn_r _ [6, 7, 40, 41, 42, 43, 44, 45, 46] (by decide +kernel) (by decide +kernel)
set_option maxRecDepth 20000 in
theorem gX9_open_X7_isLane : GoodIn wsX9_open (wsV RX9 106 RX7 yX7_isLane wsX7_isLane) := goodIn_app (goodIn_of _ (by decide +kernel)) ggX9_open_X7_isLane
set_option maxRecDepth 20000 in
theorem ggX9_open_X9_lanesChanged : GoodIn wsX9_open wsX9_lanesChanged := goodIn_r _ [12, 1, 13, 14, 15, 5, 16, 17, 18, 19, 20, 11, 21, 22, 23, 24, 25, 26, 27, 28, 29, 30, 31, 32, 33, 34, 35, 36, 37, 38, 39, 40, 41, 42, 43, 44, 45, 46, 47, 48, 49, 50, 51, 52, 53, 54, 55, 56, 57, 58, 59, 60] (by decide +kernel) (by decide +kernel)
set_option maxRecDepth 20000 in
theorem gX9_open_X9_lanesChanged : GoodIn wsX9_open (wsV RX9 103 RX9 yX9_lanesChanged wsX9_lanesChanged) := goodIn_app (goodIn_of _ (by decide +kernel)) ggX9_open_X9_lanesChanged
theorem dX9_open_0 : decode cX9_open 0 = .ok (.aload_n 0, 1) := by decide +kernel
theorem dX9_open_1 : decode cX9_open 1 = .ok (.getfield 23, 3) := by decide +kernel
theorem dX9_open_4 : decode cX9_open 4 = .ok (.iload_n 1, 1) := by decide +kernel
theorem dX9_open_5 : decode cX9_open 5 = .ok (.invokevirtual 106, 3) := by decide +kernel
theorem dX9_open_8 : decode cX9_open 8 = .ok (.ifCond .ne 5, 3) := by decide +kernel
theorem dX9_open_11 : decode cX9_open 11 = .ok (.iconst (-1), 1) := by decide +kernel
theorem dX9_open_12 : decode cX9_open 12 = .ok (.ireturn, 1) := by decide +kernel
theorem dX9_open_13 : decode cX9_open 13 = .ok (.aload_n 0, 1) := by decide +kernel
theorem dX9_open_14 : decode cX9_open 14 = .ok (.getfield 23, 3) := by decide +kernel
theorem dX9_open_17 : decode cX9_open 17 = .ok (.getfield 109, 3) := by decide +kernel
theorem dX9_open_20 : decode cX9_open 20 = .ok (.iload_n 1, 1) := by decide +kernel
theorem dX9_open_21 : decode cX9_open 21 = .ok (.baload, 1) := by decide +kernel
theorem dX9_open_22 : decode cX9_open 22 = .ok (.iload_n 2, 1) := by decide +kernel
theorem dX9_open_23 : decode cX9_open 23 = .ok (.if_icmp .ne 5, 3) := by decide +kernel
theorem dX9_open_26 : decode cX9_open 26 = .ok (.iconst 0, 1) := by decide +kernel
theorem dX9_open_27 : decode cX9_open 27 = .ok (.ireturn, 1) := by decide +kernel
theorem dX9_open_28 : decode cX9_open 28 = .ok (.aload_n 0, 1) := by decide +kernel
theorem dX9_open_29 : decode cX9_open 29 = .ok (.getfield 23, 3) := by decide +kernel
theorem dX9_open_32 : decode cX9_open 32 = .ok (.getfield 109, 3) := by decide +kernel
theorem dX9_open_35 : decode cX9_open 35 = .ok (.iload_n 1, 1) := by decide +kernel
theorem dX9_open_36 : decode cX9_open 36 = .ok (.iload_n 2, 1) := by decide +kernel
theorem dX9_open_37 : decode cX9_open 37 = .ok (.bastore, 1) := by decide +kernel
theorem dX9_open_38 : decode cX9_open 38 = .ok (.aload_n 0, 1) := by decide +kernel
theorem dX9_open_39 : decode cX9_open 39 = .ok (.invokevirtual 103, 3) := by decide +kernel
theorem dX9_open_42 : decode cX9_open 42 = .ok (.iconst 1, 1) := by decide +kernel
theorem dX9_open_43 : decode cX9_open 43 = .ok (.ireturn, 1) := by decide +kernel
set_option maxRecDepth 20000 in
theorem ggX9_about_X7_isLane : GoodIn wsX9_about wsX7_isLane := goodIn_r _ [6, 7, 18, 19, 20, 21, 22, 23, 24] (by decide +kernel) (by decide +kernel)
set_option maxRecDepth 20000 in
theorem gX9_about_X7_isLane : GoodIn wsX9_about (wsV RX9 106 RX7 yX7_isLane wsX7_isLane) := goodIn_app (goodIn_of _ (by decide +kernel)) ggX9_about_X7_isLane
theorem dX9_about_0 : decode cX9_about 0 = .ok (.aload_n 0, 1) := by decide +kernel
theorem dX9_about_1 : decode cX9_about 1 = .ok (.getfield 23, 3) := by decide +kernel
theorem dX9_about_4 : decode cX9_about 4 = .ok (.iload_n 1, 1) := by decide +kernel
theorem dX9_about_5 : decode cX9_about 5 = .ok (.invokevirtual 106, 3) := by decide +kernel
theorem dX9_about_8 : decode cX9_about 8 = .ok (.ifCond .ne 5, 3) := by decide +kernel
theorem dX9_about_11 : decode cX9_about 11 = .ok (.iconst (-1), 1) := by decide +kernel
theorem dX9_about_12 : decode cX9_about 12 = .ok (.ireturn, 1) := by decide +kernel
theorem dX9_about_13 : decode cX9_about 13 = .ok (.iload_n 2, 1) := by decide +kernel
theorem dX9_about_14 : decode cX9_about 14 = .ok (.tableswitch 78 0 3 #[30, 40, 50, 60], 30) := by decide +kernel
theorem dX9_about_44 : decode cX9_about 44 = .ok (.aload_n 0, 1) := by decide +kernel
theorem dX9_about_45 : decode cX9_about 45 = .ok (.getfield 23, 3) := by decide +kernel
theorem dX9_about_48 : decode cX9_about 48 = .ok (.getfield 113, 3) := by decide +kernel
theorem dX9_about_51 : decode cX9_about 51 = .ok (.iload_n 1, 1) := by decide +kernel
theorem dX9_about_52 : decode cX9_about 52 = .ok (.iaload, 1) := by decide +kernel
theorem dX9_about_53 : decode cX9_about 53 = .ok (.ireturn, 1) := by decide +kernel
theorem dX9_about_54 : decode cX9_about 54 = .ok (.aload_n 0, 1) := by decide +kernel
theorem dX9_about_55 : decode cX9_about 55 = .ok (.getfield 23, 3) := by decide +kernel
theorem dX9_about_58 : decode cX9_about 58 = .ok (.getfield 117, 3) := by decide +kernel
theorem dX9_about_61 : decode cX9_about 61 = .ok (.iload_n 1, 1) := by decide +kernel
theorem dX9_about_62 : decode cX9_about 62 = .ok (.iaload, 1) := by decide +kernel
theorem dX9_about_63 : decode cX9_about 63 = .ok (.ireturn, 1) := by decide +kernel
theorem dX9_about_64 : decode cX9_about 64 = .ok (.aload_n 0, 1) := by decide +kernel
theorem dX9_about_65 : decode cX9_about 65 = .ok (.getfield 23, 3) := by decide +kernel
theorem dX9_about_68 : decode cX9_about 68 = .ok (.getfield 120, 3) := by decide +kernel
theorem dX9_about_71 : decode cX9_about 71 = .ok (.iload_n 1, 1) := by decide +kernel
theorem dX9_about_72 : decode cX9_about 72 = .ok (.iaload, 1) := by decide +kernel
theorem dX9_about_73 : decode cX9_about 73 = .ok (.ireturn, 1) := by decide +kernel
theorem dX9_about_74 : decode cX9_about 74 = .ok (.aload_n 0, 1) := by decide +kernel
theorem dX9_about_75 : decode cX9_about 75 = .ok (.getfield 23, 3) := by decide +kernel
theorem dX9_about_78 : decode cX9_about 78 = .ok (.getfield 109, 3) := by decide +kernel
theorem dX9_about_81 : decode cX9_about 81 = .ok (.iload_n 1, 1) := by decide +kernel
theorem dX9_about_82 : decode cX9_about 82 = .ok (.baload, 1) := by decide +kernel
theorem dX9_about_83 : decode cX9_about 83 = .ok (.ifCond .eq 7, 3) := by decide +kernel
theorem dX9_about_86 : decode cX9_about 86 = .ok (.iconst 1, 1) := by decide +kernel
theorem dX9_about_87 : decode cX9_about 87 = .ok (.goto 4, 3) := by decide +kernel
theorem dX9_about_90 : decode cX9_about 90 = .ok (.iconst 0, 1) := by decide +kernel
theorem dX9_about_91 : decode cX9_about 91 = .ok (.ireturn, 1) := by decide +kernel
theorem dX9_about_92 : decode cX9_about 92 = .ok (.iconst (-1), 1) := by decide +kernel
theorem dX9_about_93 : decode cX9_about 93 = .ok (.ireturn, 1) := by decide +kernel
set_option maxRecDepth 20000 in
theorem ggX9_row_X4_isNumber : GoodIn wsX9_row wsX4_isNumber := goodIn_r _ [6] (by decide +kernel) (by decide +kernel)
set_option maxRecDepth 20000 in
theorem gX9_row_X4_isNumber : GoodIn wsX9_row (wsV RX9 123 RX4 yX4_isNumber wsX4_isNumber) := goodIn_app (goodIn_of _ (by decide +kernel)) ggX9_row_X4_isNumber
set_option maxRecDepth 20000 in
theorem ggX9_row_X4_make : GoodIn wsX9_row wsX4_make := goodIn_r _ [10, 11, 12, 13, 14, 15, 16, 17, 28, 29, 30] (by decide +kernel) (by decide +kernel)
set_option maxRecDepth 20000 in
theorem gX9_row_X4_make : GoodIn wsX9_row (wsV RX9 126 RX4 yX4_make wsX4_make) := goodIn_app (goodIn_of _ (by decide +kernel)) ggX9_row_X4_make
theorem dX9_row_0 : decode cX9_row 0 = .ok (.aload_n 0, 1) := by decide +kernel
theorem dX9_row_1 : decode cX9_row 1 = .ok (.getfield 16, 3) := by decide +kernel
theorem dX9_row_4 : decode cX9_row 4 = .ok (.iload_n 1, 1) := by decide +kernel
theorem dX9_row_5 : decode cX9_row 5 = .ok (.invokevirtual 123, 3) := by decide +kernel
theorem dX9_row_8 : decode cX9_row 8 = .ok (.ifCond .eq 12, 3) := by decide +kernel
theorem dX9_row_11 : decode cX9_row 11 = .ok (.iload_n 2, 1) := by decide +kernel
theorem dX9_row_12 : decode cX9_row 12 = .ok (.ifCond .lt 8, 3) := by decide +kernel
theorem dX9_row_15 : decode cX9_row 15 = .ok (.iload_n 2, 1) := by decide +kernel
theorem dX9_row_16 : decode cX9_row 16 = .ok (.iconst 2, 1) := by decide +kernel
theorem dX9_row_17 : decode cX9_row 17 = .ok (.if_icmp .le 5, 3) := by decide +kernel
theorem dX9_row_20 : decode cX9_row 20 = .ok (.iconst (-1), 1) := by decide +kernel
theorem dX9_row_21 : decode cX9_row 21 = .ok (.ireturn, 1) := by decide +kernel
theorem dX9_row_22 : decode cX9_row 22 = .ok (.iload_n 3, 1) := by decide +kernel
theorem dX9_row_23 : decode cX9_row 23 = .ok (.ifCond .ge 6, 3) := by decide +kernel
theorem dX9_row_26 : decode cX9_row 26 = .ok (.bipush (-6), 2) := by decide +kernel
theorem dX9_row_28 : decode cX9_row 28 = .ok (.ireturn, 1) := by decide +kernel
theorem dX9_row_29 : decode cX9_row 29 = .ok (.iload_n 3, 1) := by decide +kernel
theorem dX9_row_30 : decode cX9_row 30 = .ok (.bipush 50, 2) := by decide +kernel
theorem dX9_row_32 : decode cX9_row 32 = .ok (.if_icmp .le 5, 3) := by decide +kernel
theorem dX9_row_35 : decode cX9_row 35 = .ok (.iconst (-1), 1) := by decide +kernel
theorem dX9_row_36 : decode cX9_row 36 = .ok (.ireturn, 1) := by decide +kernel
theorem dX9_row_37 : decode cX9_row 37 = .ok (.aload_n 0, 1) := by decide +kernel
theorem dX9_row_38 : decode cX9_row 38 = .ok (.getfield 16, 3) := by decide +kernel
theorem dX9_row_41 : decode cX9_row 41 = .ok (.iload_n 1, 1) := by decide +kernel
theorem dX9_row_42 : decode cX9_row 42 = .ok (.iload_n 2, 1) := by decide +kernel
theorem dX9_row_43 : decode cX9_row 43 = .ok (.iload_n 3, 1) := by decide +kernel
theorem dX9_row_44 : decode cX9_row 44 = .ok (.invokevirtual 126, 3) := by decide +kernel
theorem dX9_row_47 : decode cX9_row 47 = .ok (.iconst 1, 1) := by decide +kernel
theorem dX9_row_48 : decode cX9_row 48 = .ok (.ireturn, 1) := by decide +kernel
set_option maxRecDepth 20000 in
theorem ggX9_cell_X4_isNumber : GoodIn wsX9_cell wsX4_isNumber := goodIn_r _ [6] (by decide +kernel) (by decide +kernel)
set_option maxRecDepth 20000 in
theorem gX9_cell_X4_isNumber : GoodIn wsX9_cell (wsV RX9 123 RX4 yX4_isNumber wsX4_isNumber) := goodIn_app (goodIn_of _ (by decide +kernel)) ggX9_cell_X4_isNumber
set_option maxRecDepth 20000 in
theorem ggX9_cell_X4_isMissing : GoodIn wsX9_cell wsX4_isMissing := goodIn_r _ [10, 11, 32, 33, 34] (by decide +kernel) (by decide +kernel)
set_option maxRecDepth 20000 in
theorem gX9_cell_X4_isMissing : GoodIn wsX9_cell (wsV RX9 130 RX4 yX4_isMissing wsX4_isMissing) := goodIn_app (goodIn_of _ (by decide +kernel)) ggX9_cell_X4_isMissing
set_option maxRecDepth 20000 in
theorem ggX9_cell_X4_hasCell : GoodIn wsX9_cell wsX4_hasCell := goodIn_r _ [15, 11, 32, 33, 34] (by decide +kernel) (by decide +kernel)
set_option maxRecDepth 20000 in
theorem gX9_cell_X4_hasCell : GoodIn wsX9_cell (wsV RX9 133 RX4 yX4_hasCell wsX4_hasCell) := goodIn_app (goodIn_of _ (by decide +kernel)) ggX9_cell_X4_hasCell
set_option maxRecDepth 20000 in
theorem ggX9_cell_X4_write : GoodIn wsX9_cell wsX4_write := goodIn_r _ [19, 20, 21, 32, 33, 34] (by decide +kernel) (by decide +kernel)
set_option maxRecDepth 20000 in
theorem gX9_cell_X4_write : GoodIn wsX9_cell (wsV RX9 137 RX4 yX4_write wsX4_write) := goodIn_app (goodIn_of _ (by decide +kernel)) ggX9_cell_X4_write
theorem dX9_cell_0 : decode cX9_cell 0 = .ok (.aload_n 0, 1) := by decide +kernel
theorem dX9_cell_1 : decode cX9_cell 1 = .ok (.getfield 16, 3) := by decide +kernel
theorem dX9_cell_4 : decode cX9_cell 4 = .ok (.iload_n 1, 1) := by decide +kernel
theorem dX9_cell_5 : decode cX9_cell 5 = .ok (.invokevirtual 123, 3) := by decide +kernel
theorem dX9_cell_8 : decode cX9_cell 8 = .ok (.ifCond .ne 5, 3) := by decide +kernel
theorem dX9_cell_11 : decode cX9_cell 11 = .ok (.iconst (-1), 1) := by decide +kernel
theorem dX9_cell_12 : decode cX9_cell 12 = .ok (.ireturn, 1) := by decide +kernel
theorem dX9_cell_13 : decode cX9_cell 13 = .ok (.aload_n 0, 1) := by decide +kernel
theorem dX9_cell_14 : decode cX9_cell 14 = .ok (.getfield 16, 3) := by decide +kernel
theorem dX9_cell_17 : decode cX9_cell 17 = .ok (.iload_n 1, 1) := by decide +kernel
theorem dX9_cell_18 : decode cX9_cell 18 = .ok (.invokevirtual 130, 3) := by decide +kernel
theorem dX9_cell_21 : decode cX9_cell 21 = .ok (.ifCond .eq 6, 3) := by decide +kernel
theorem dX9_cell_24 : decode cX9_cell 24 = .ok (.bipush (-3), 2) := by decide +kernel
theorem dX9_cell_26 : decode cX9_cell 26 = .ok (.ireturn, 1) := by decide +kernel
theorem dX9_cell_27 : decode cX9_cell 27 = .ok (.aload_n 0, 1) := by decide +kernel
theorem dX9_cell_28 : decode cX9_cell 28 = .ok (.getfield 16, 3) := by decide +kernel
theorem dX9_cell_31 : decode cX9_cell 31 = .ok (.iload_n 1, 1) := by decide +kernel
theorem dX9_cell_32 : decode cX9_cell 32 = .ok (.iload_n 2, 1) := by decide +kernel
theorem dX9_cell_33 : decode cX9_cell 33 = .ok (.invokevirtual 133, 3) := by decide +kernel
theorem dX9_cell_36 : decode cX9_cell 36 = .ok (.ifCond .ne 5, 3) := by decide +kernel
theorem dX9_cell_39 : decode cX9_cell 39 = .ok (.iconst (-1), 1) := by decide +kernel
theorem dX9_cell_40 : decode cX9_cell 40 = .ok (.ireturn, 1) := by decide +kernel
theorem dX9_cell_41 : decode cX9_cell 41 = .ok (.aload_n 0, 1) := by decide +kernel
theorem dX9_cell_42 : decode cX9_cell 42 = .ok (.getfield 16, 3) := by decide +kernel
theorem dX9_cell_45 : decode cX9_cell 45 = .ok (.iload_n 1, 1) := by decide +kernel
theorem dX9_cell_46 : decode cX9_cell 46 = .ok (.iload_n 2, 1) := by decide +kernel
theorem dX9_cell_47 : decode cX9_cell 47 = .ok (.lload_n 3, 1) := by decide +kernel
theorem dX9_cell_48 : decode cX9_cell 48 = .ok (.invokevirtual 137, 3) := by decide +kernel
theorem dX9_cell_51 : decode cX9_cell 51 = .ok (.iconst 1, 1) := by decide +kernel
theorem dX9_cell_52 : decode cX9_cell 52 = .ok (.ireturn, 1) := by decide +kernel
set_option maxRecDepth 20000 in
theorem ggX9_told_X4_isNumber : GoodIn wsX9_told wsX4_isNumber := goodIn_r _ [7] (by decide +kernel) (by decide +kernel)
set_option maxRecDepth 20000 in
theorem gX9_told_X4_isNumber : GoodIn wsX9_told (wsV RX9 123 RX4 yX4_isNumber wsX4_isNumber) := goodIn_app (goodIn_of _ (by decide +kernel)) ggX9_told_X4_isNumber
set_option maxRecDepth 20000 in
theorem ggX9_told_X4_hasCell : GoodIn wsX9_told wsX4_hasCell := goodIn_r _ [11, 12, 23, 24, 25] (by decide +kernel) (by decide +kernel)
set_option maxRecDepth 20000 in
theorem gX9_told_X4_hasCell : GoodIn wsX9_told (wsV RX9 133 RX4 yX4_hasCell wsX4_hasCell) := goodIn_app (goodIn_of _ (by decide +kernel)) ggX9_told_X4_hasCell
theorem dX9_told_0 : decode cX9_told 0 = .ok (.aload_n 0, 1) := by decide +kernel
theorem dX9_told_1 : decode cX9_told 1 = .ok (.getfield 16, 3) := by decide +kernel
theorem dX9_told_4 : decode cX9_told 4 = .ok (.iload_n 1, 1) := by decide +kernel
theorem dX9_told_5 : decode cX9_told 5 = .ok (.invokevirtual 123, 3) := by decide +kernel
theorem dX9_told_8 : decode cX9_told 8 = .ok (.ifCond .eq 15, 3) := by decide +kernel
theorem dX9_told_11 : decode cX9_told 11 = .ok (.aload_n 0, 1) := by decide +kernel
theorem dX9_told_12 : decode cX9_told 12 = .ok (.getfield 16, 3) := by decide +kernel
theorem dX9_told_15 : decode cX9_told 15 = .ok (.iload_n 1, 1) := by decide +kernel
theorem dX9_told_16 : decode cX9_told 16 = .ok (.iload_n 2, 1) := by decide +kernel
theorem dX9_told_17 : decode cX9_told 17 = .ok (.invokevirtual 133, 3) := by decide +kernel
theorem dX9_told_20 : decode cX9_told 20 = .ok (.ifCond .ne 7, 3) := by decide +kernel
theorem dX9_told_23 : decode cX9_told 23 = .ok (.ldc2_w 141, 3) := by decide +kernel
theorem dX9_told_26 : decode cX9_told 26 = .ok (.lreturn, 1) := by decide +kernel
theorem dX9_told_27 : decode cX9_told 27 = .ok (.aload_n 0, 1) := by decide +kernel
theorem dX9_told_28 : decode cX9_told 28 = .ok (.getfield 16, 3) := by decide +kernel
theorem dX9_told_31 : decode cX9_told 31 = .ok (.getfield 143, 3) := by decide +kernel
theorem dX9_told_34 : decode cX9_told 34 = .ok (.iload_n 1, 1) := by decide +kernel
theorem dX9_told_35 : decode cX9_told 35 = .ok (.aaload, 1) := by decide +kernel
theorem dX9_told_36 : decode cX9_told 36 = .ok (.iload_n 2, 1) := by decide +kernel
theorem dX9_told_37 : decode cX9_told 37 = .ok (.laload, 1) := by decide +kernel
theorem dX9_told_38 : decode cX9_told 38 = .ok (.lreturn, 1) := by decide +kernel
set_option maxRecDepth 20000 in
theorem ggX9_lose_X4_isNumber : GoodIn wsX9_lose wsX4_isNumber := goodIn_r _ [6] (by decide +kernel) (by decide +kernel)
set_option maxRecDepth 20000 in
theorem gX9_lose_X4_isNumber : GoodIn wsX9_lose (wsV RX9 123 RX4 yX4_isNumber wsX4_isNumber) := goodIn_app (goodIn_of _ (by decide +kernel)) ggX9_lose_X4_isNumber
set_option maxRecDepth 20000 in
theorem ggX9_lose_X4_isMissing : GoodIn wsX9_lose wsX4_isMissing := goodIn_r _ [10, 11, 26, 27, 28] (by decide +kernel) (by decide +kernel)
set_option maxRecDepth 20000 in
theorem gX9_lose_X4_isMissing : GoodIn wsX9_lose (wsV RX9 130 RX4 yX4_isMissing wsX4_isMissing) := goodIn_app (goodIn_of _ (by decide +kernel)) ggX9_lose_X4_isMissing
set_option maxRecDepth 20000 in
theorem ggX9_lose_X4_drop : GoodIn wsX9_lose wsX4_drop := goodIn_r _ [15, 11, 26, 27, 28] (by decide +kernel) (by decide +kernel)
set_option maxRecDepth 20000 in
theorem gX9_lose_X4_drop : GoodIn wsX9_lose (wsV RX9 147 RX4 yX4_drop wsX4_drop) := goodIn_app (goodIn_of _ (by decide +kernel)) ggX9_lose_X4_drop
theorem dX9_lose_0 : decode cX9_lose 0 = .ok (.aload_n 0, 1) := by decide +kernel
theorem dX9_lose_1 : decode cX9_lose 1 = .ok (.getfield 16, 3) := by decide +kernel
theorem dX9_lose_4 : decode cX9_lose 4 = .ok (.iload_n 1, 1) := by decide +kernel
theorem dX9_lose_5 : decode cX9_lose 5 = .ok (.invokevirtual 123, 3) := by decide +kernel
theorem dX9_lose_8 : decode cX9_lose 8 = .ok (.ifCond .ne 5, 3) := by decide +kernel
theorem dX9_lose_11 : decode cX9_lose 11 = .ok (.iconst (-1), 1) := by decide +kernel
theorem dX9_lose_12 : decode cX9_lose 12 = .ok (.ireturn, 1) := by decide +kernel
theorem dX9_lose_13 : decode cX9_lose 13 = .ok (.aload_n 0, 1) := by decide +kernel
theorem dX9_lose_14 : decode cX9_lose 14 = .ok (.getfield 16, 3) := by decide +kernel
theorem dX9_lose_17 : decode cX9_lose 17 = .ok (.iload_n 1, 1) := by decide +kernel
theorem dX9_lose_18 : decode cX9_lose 18 = .ok (.invokevirtual 130, 3) := by decide +kernel
theorem dX9_lose_21 : decode cX9_lose 21 = .ok (.ifCond .eq 6, 3) := by decide +kernel
theorem dX9_lose_24 : decode cX9_lose 24 = .ok (.bipush (-3), 2) := by decide +kernel
theorem dX9_lose_26 : decode cX9_lose 26 = .ok (.ireturn, 1) := by decide +kernel
theorem dX9_lose_27 : decode cX9_lose 27 = .ok (.aload_n 0, 1) := by decide +kernel
theorem dX9_lose_28 : decode cX9_lose 28 = .ok (.getfield 16, 3) := by decide +kernel
theorem dX9_lose_31 : decode cX9_lose 31 = .ok (.iload_n 1, 1) := by decide +kernel
theorem dX9_lose_32 : decode cX9_lose 32 = .ok (.invokevirtual 147, 3) := by decide +kernel
theorem dX9_lose_35 : decode cX9_lose 35 = .ok (.iconst 1, 1) := by decide +kernel
theorem dX9_lose_36 : decode cX9_lose 36 = .ok (.ireturn, 1) := by decide +kernel
set_option maxRecDepth 20000 in
theorem ggX9_lay_X4_isNumber : GoodIn wsX9_lay wsX4_isNumber := goodIn_r _ [7] (by decide +kernel) (by decide +kernel)
set_option maxRecDepth 20000 in
theorem gX9_lay_X4_isNumber : GoodIn wsX9_lay (wsV RX9 123 RX4 yX4_isNumber wsX4_isNumber) := goodIn_app (goodIn_of _ (by decide +kernel)) ggX9_lay_X4_isNumber
set_option maxRecDepth 20000 in
theorem ggX9_lay_X4_isMissing : GoodIn wsX9_lay wsX4_isMissing := goodIn_r _ [11, 12, 55, 56, 57] (by decide +kernel) (by decide +kernel)
set_option maxRecDepth 20000 in
theorem gX9_lay_X4_isMissing : GoodIn wsX9_lay (wsV RX9 130 RX4 yX4_isMissing wsX4_isMissing) := goodIn_app (goodIn_of _ (by decide +kernel)) ggX9_lay_X4_isMissing
set_option maxRecDepth 20000 in
theorem ggX9_lay_X7_resize : GoodIn wsX9_lay wsX7_resize := goodIn_r _ [17, 18, 19, 20, 21, 22, 23, 58, 59, 60, 61, 62, 63, 64] (by decide +kernel) (by decide +kernel)
set_option maxRecDepth 20000 in
theorem gX9_lay_X7_resize : GoodIn wsX9_lay (wsV RX9 157 RX7 yX7_resize wsX7_resize) := goodIn_app (goodIn_of _ (by decide +kernel)) ggX9_lay_X7_resize
set_option maxRecDepth 20000 in
theorem ggX9_lay_X9_lanesChanged : GoodIn wsX9_lay wsX9_lanesChanged := goodIn_r _ [27, 2, 28, 29, 30, 16, 31, 32, 33, 34, 35, 21, 36, 37, 38, 39, 40, 41, 42, 43, 44, 45, 46, 47, 48, 49, 50, 51, 52, 53, 54, 58, 59, 60, 61, 62, 63, 64, 65, 66, 67, 68, 69, 70, 71, 72, 73, 74, 75, 76, 77, 78] (by decide +kernel) (by decide +kernel)
set_option maxRecDepth 20000 in
theorem gX9_lay_X9_lanesChanged : GoodIn wsX9_lay (wsV RX9 103 RX9 yX9_lanesChanged wsX9_lanesChanged) := goodIn_app (goodIn_of _ (by decide +kernel)) ggX9_lay_X9_lanesChanged
theorem dX9_lay_0 : decode cX9_lay 0 = .ok (.aload_n 0, 1) := by decide +kernel
theorem dX9_lay_1 : decode cX9_lay 1 = .ok (.getfield 16, 3) := by decide +kernel
theorem dX9_lay_4 : decode cX9_lay 4 = .ok (.iload_n 1, 1) := by decide +kernel
theorem dX9_lay_5 : decode cX9_lay 5 = .ok (.invokevirtual 123, 3) := by decide +kernel
theorem dX9_lay_8 : decode cX9_lay 8 = .ok (.ifCond .ne 5, 3) := by decide +kernel
theorem dX9_lay_11 : decode cX9_lay 11 = .ok (.iconst (-1), 1) := by decide +kernel
theorem dX9_lay_12 : decode cX9_lay 12 = .ok (.ireturn, 1) := by decide +kernel
theorem dX9_lay_13 : decode cX9_lay 13 = .ok (.aload_n 0, 1) := by decide +kernel
theorem dX9_lay_14 : decode cX9_lay 14 = .ok (.getfield 16, 3) := by decide +kernel
theorem dX9_lay_17 : decode cX9_lay 17 = .ok (.iload_n 1, 1) := by decide +kernel
theorem dX9_lay_18 : decode cX9_lay 18 = .ok (.invokevirtual 130, 3) := by decide +kernel
theorem dX9_lay_21 : decode cX9_lay 21 = .ok (.ifCond .eq 6, 3) := by decide +kernel
theorem dX9_lay_24 : decode cX9_lay 24 = .ok (.bipush (-3), 2) := by decide +kernel
theorem dX9_lay_26 : decode cX9_lay 26 = .ok (.ireturn, 1) := by decide +kernel
theorem dX9_lay_27 : decode cX9_lay 27 = .ok (.aload_n 0, 1) := by decide +kernel
theorem dX9_lay_28 : decode cX9_lay 28 = .ok (.getfield 16, 3) := by decide +kernel
theorem dX9_lay_31 : decode cX9_lay 31 = .ok (.getfield 151, 3) := by decide +kernel
theorem dX9_lay_34 : decode cX9_lay 34 = .ok (.iload_n 1, 1) := by decide +kernel
theorem dX9_lay_35 : decode cX9_lay 35 = .ok (.iaload, 1) := by decide +kernel
theorem dX9_lay_36 : decode cX9_lay 36 = .ok (.iconst 1, 1) := by decide +kernel
theorem dX9_lay_37 : decode cX9_lay 37 = .ok (.if_icmp .eq 6, 3) := by decide +kernel
theorem dX9_lay_40 : decode cX9_lay 40 = .ok (.bipush (-5), 2) := by decide +kernel
theorem dX9_lay_42 : decode cX9_lay 42 = .ok (.ireturn, 1) := by decide +kernel
theorem dX9_lay_43 : decode cX9_lay 43 = .ok (.iload_n 3, 1) := by decide +kernel
theorem dX9_lay_44 : decode cX9_lay 44 = .ok (.ifCond .lt 41, 3) := by decide +kernel
theorem dX9_lay_47 : decode cX9_lay 47 = .ok (.iload_n 2, 1) := by decide +kernel
theorem dX9_lay_48 : decode cX9_lay 48 = .ok (.ifCond .lt 37, 3) := by decide +kernel
theorem dX9_lay_51 : decode cX9_lay 51 = .ok (.iload_n 3, 1) := by decide +kernel
theorem dX9_lay_52 : decode cX9_lay 52 = .ok (.aload_n 0, 1) := by decide +kernel
theorem dX9_lay_53 : decode cX9_lay 53 = .ok (.getfield 16, 3) := by decide +kernel
theorem dX9_lay_56 : decode cX9_lay 56 = .ok (.getfield 154, 3) := by decide +kernel
theorem dX9_lay_59 : decode cX9_lay 59 = .ok (.iload_n 1, 1) := by decide +kernel
theorem dX9_lay_60 : decode cX9_lay 60 = .ok (.iaload, 1) := by decide +kernel
theorem dX9_lay_61 : decode cX9_lay 61 = .ok (.iload_n 2, 1) := by decide +kernel
theorem dX9_lay_62 : decode cX9_lay 62 = .ok (.isub, 1) := by decide +kernel
theorem dX9_lay_63 : decode cX9_lay 63 = .ok (.if_icmp .gt 22, 3) := by decide +kernel
theorem dX9_lay_66 : decode cX9_lay 66 = .ok (.iload 4, 2) := by decide +kernel
theorem dX9_lay_68 : decode cX9_lay 68 = .ok (.ifCond .lt 17, 3) := by decide +kernel
theorem dX9_lay_71 : decode cX9_lay 71 = .ok (.iload_n 3, 1) := by decide +kernel
theorem dX9_lay_72 : decode cX9_lay 72 = .ok (.aload_n 0, 1) := by decide +kernel
theorem dX9_lay_73 : decode cX9_lay 73 = .ok (.getfield 23, 3) := by decide +kernel
theorem dX9_lay_76 : decode cX9_lay 76 = .ok (.getfield 95, 3) := by decide +kernel
theorem dX9_lay_79 : decode cX9_lay 79 = .ok (.iload 4, 2) := by decide +kernel
theorem dX9_lay_81 : decode cX9_lay 81 = .ok (.isub, 1) := by decide +kernel
theorem dX9_lay_82 : decode cX9_lay 82 = .ok (.if_icmp .le 5, 3) := by decide +kernel
theorem dX9_lay_85 : decode cX9_lay 85 = .ok (.iconst (-1), 1) := by decide +kernel
theorem dX9_lay_86 : decode cX9_lay 86 = .ok (.ireturn, 1) := by decide +kernel
theorem dX9_lay_87 : decode cX9_lay 87 = .ok (.iconst 0, 1) := by decide +kernel
theorem dX9_lay_88 : decode cX9_lay 88 = .ok (.istore 5, 2) := by decide +kernel
theorem dX9_lay_90 : decode cX9_lay 90 = .ok (.iload 5, 2) := by decide +kernel
theorem dX9_lay_92 : decode cX9_lay 92 = .ok (.iload_n 3, 1) := by decide +kernel
theorem dX9_lay_93 : decode cX9_lay 93 = .ok (.if_icmp .ge 35, 3) := by decide +kernel
theorem dX9_lay_96 : decode cX9_lay 96 = .ok (.aload_n 0, 1) := by decide +kernel
theorem dX9_lay_97 : decode cX9_lay 97 = .ok (.getfield 23, 3) := by decide +kernel
theorem dX9_lay_100 : decode cX9_lay 100 = .ok (.iload 4, 2) := by decide +kernel
theorem dX9_lay_102 : decode cX9_lay 102 = .ok (.iload 5, 2) := by decide +kernel
theorem dX9_lay_104 : decode cX9_lay 104 = .ok (.iadd, 1) := by decide +kernel
theorem dX9_lay_105 : decode cX9_lay 105 = .ok (.aload_n 0, 1) := by decide +kernel
theorem dX9_lay_106 : decode cX9_lay 106 = .ok (.getfield 16, 3) := by decide +kernel
theorem dX9_lay_109 : decode cX9_lay 109 = .ok (.getfield 143, 3) := by decide +kernel
theorem dX9_lay_112 : decode cX9_lay 112 = .ok (.iload_n 1, 1) := by decide +kernel
theorem dX9_lay_113 : decode cX9_lay 113 = .ok (.aaload, 1) := by decide +kernel
theorem dX9_lay_114 : decode cX9_lay 114 = .ok (.iload_n 2, 1) := by decide +kernel
theorem dX9_lay_115 : decode cX9_lay 115 = .ok (.iload 5, 2) := by decide +kernel
theorem dX9_lay_117 : decode cX9_lay 117 = .ok (.iadd, 1) := by decide +kernel
theorem dX9_lay_118 : decode cX9_lay 118 = .ok (.laload, 1) := by decide +kernel
theorem dX9_lay_119 : decode cX9_lay 119 = .ok (.invokevirtual 157, 3) := by decide +kernel
theorem dX9_lay_122 : decode cX9_lay 122 = .ok (.iinc 5 1, 3) := by decide +kernel
theorem dX9_lay_125 : decode cX9_lay 125 = .ok (.goto (-35), 3) := by decide +kernel
theorem dX9_lay_128 : decode cX9_lay 128 = .ok (.aload_n 0, 1) := by decide +kernel
theorem dX9_lay_129 : decode cX9_lay 129 = .ok (.invokevirtual 103, 3) := by decide +kernel
theorem dX9_lay_132 : decode cX9_lay 132 = .ok (.iconst 1, 1) := by decide +kernel
theorem dX9_lay_133 : decode cX9_lay 133 = .ok (.ireturn, 1) := by decide +kernel
set_option maxRecDepth 20000 in
theorem ggX9_way_X9_isCrossing : GoodIn wsX9_way wsX9_isCrossing := goodIn_r _ [6] (by decide +kernel) (by decide +kernel)
set_option maxRecDepth 20000 in
theorem gX9_way_X9_isCrossing : GoodIn wsX9_way (va_wsS RX9 87 yX9_isCrossing wsX9_isCrossing) := goodIn_app (goodIn_of _ (by decide +kernel)) ggX9_way_X9_isCrossing
set_option maxRecDepth 20000 in
theorem ggX9_way_X7_waysFrom : GoodIn wsX9_way wsX7_waysFrom := goodIn_r _ [11, 12, 13, 14, 15, 16, 10, 17, 18, 19, 20, 21, 22, 23, 24, 25, 26, 27, 28, 29, 30, 31, 42, 43, 44, 45, 46, 47, 48] (by decide +kernel) (by decide +kernel)
set_option maxRecDepth 20000 in
theorem gX9_way_X7_waysFrom : GoodIn wsX9_way (wsV RX9 161 RX7 yX7_waysFrom wsX7_waysFrom) := goodIn_app (goodIn_of _ (by decide +kernel)) ggX9_way_X7_waysFrom
theorem dX9_way_0 : decode cX9_way 0 = .ok (.iload_n 1, 1) := by decide +kernel
theorem dX9_way_1 : decode cX9_way 1 = .ok (.invokestatic 87, 3) := by decide +kernel
theorem dX9_way_4 : decode cX9_way 4 = .ok (.ifCond .eq 10, 3) := by decide +kernel
theorem dX9_way_7 : decode cX9_way 7 = .ok (.iload_n 2, 1) := by decide +kernel
theorem dX9_way_8 : decode cX9_way 8 = .ok (.invokestatic 87, 3) := by decide +kernel
theorem dX9_way_11 : decode cX9_way 11 = .ok (.ifCond .ne 5, 3) := by decide +kernel
theorem dX9_way_14 : decode cX9_way 14 = .ok (.iconst (-1), 1) := by decide +kernel
theorem dX9_way_15 : decode cX9_way 15 = .ok (.ireturn, 1) := by decide +kernel
theorem dX9_way_16 : decode cX9_way 16 = .ok (.aload_n 0, 1) := by decide +kernel
theorem dX9_way_17 : decode cX9_way 17 = .ok (.getfield 23, 3) := by decide +kernel
theorem dX9_way_20 : decode cX9_way 20 = .ok (.iload_n 1, 1) := by decide +kernel
theorem dX9_way_21 : decode cX9_way 21 = .ok (.invokevirtual 161, 3) := by decide +kernel
theorem dX9_way_24 : decode cX9_way 24 = .ok (.iload_n 2, 1) := by decide +kernel
theorem dX9_way_25 : decode cX9_way 25 = .ok (.iaload, 1) := by decide +kernel
theorem dX9_way_26 : decode cX9_way 26 = .ok (.istore_n 3, 1) := by decide +kernel
theorem dX9_way_27 : decode cX9_way 27 = .ok (.iload_n 3, 1) := by decide +kernel
theorem dX9_way_28 : decode cX9_way 28 = .ok (.ldc 165, 2) := by decide +kernel
theorem dX9_way_30 : decode cX9_way 30 = .ok (.if_icmp .ne 8, 3) := by decide +kernel
theorem dX9_way_33 : decode cX9_way 33 = .ok (.bipush (-10), 2) := by decide +kernel
theorem dX9_way_35 : decode cX9_way 35 = .ok (.goto 4, 3) := by decide +kernel
theorem dX9_way_38 : decode cX9_way 38 = .ok (.iload_n 3, 1) := by decide +kernel
theorem dX9_way_39 : decode cX9_way 39 = .ok (.ireturn, 1) := by decide +kernel
set_option maxRecDepth 20000 in
theorem ggX9_walk_X9_isCrossing : GoodIn wsX9_walk wsX9_isCrossing := goodIn_r _ [5] (by decide +kernel) (by decide +kernel)
set_option maxRecDepth 20000 in
theorem gX9_walk_X9_isCrossing : GoodIn wsX9_walk (va_wsS RX9 87 yX9_isCrossing wsX9_isCrossing) := goodIn_app (goodIn_of _ (by decide +kernel)) ggX9_walk_X9_isCrossing
set_option maxRecDepth 20000 in
theorem ggX9_walk_X7_crossingOnWalk : GoodIn wsX9_walk wsX7_crossingOnWalk := goodIn_r _ [10, 11, 12, 13, 14, 9, 15, 16, 17, 18, 19, 20, 21, 22, 23, 24, 25, 26, 27, 28, 29, 30, 31, 32, 33, 34, 35, 36, 37, 38, 39, 40, 41, 42, 53, 54, 55, 56, 57, 58, 59] (by decide +kernel) (by decide +kernel)
set_option maxRecDepth 20000 in
theorem gX9_walk_X7_crossingOnWalk : GoodIn wsX9_walk (wsV RX9 166 RX7 yX7_crossingOnWalk wsX7_crossingOnWalk) := goodIn_app (goodIn_of _ (by decide +kernel)) ggX9_walk_X7_crossingOnWalk
theorem dX9_walk_0 : decode cX9_walk 0 = .ok (.iload_n 1, 1) := by decide +kernel
theorem dX9_walk_1 : decode cX9_walk 1 = .ok (.invokestatic 87, 3) := by decide +kernel
theorem dX9_walk_4 : decode cX9_walk 4 = .ok (.ifCond .eq 10, 3) := by decide +kernel
theorem dX9_walk_7 : decode cX9_walk 7 = .ok (.iload_n 2, 1) := by decide +kernel
theorem dX9_walk_8 : decode cX9_walk 8 = .ok (.invokestatic 87, 3) := by decide +kernel
theorem dX9_walk_11 : decode cX9_walk 11 = .ok (.ifCond .ne 5, 3) := by decide +kernel
theorem dX9_walk_14 : decode cX9_walk 14 = .ok (.iconst (-1), 1) := by decide +kernel
theorem dX9_walk_15 : decode cX9_walk 15 = .ok (.ireturn, 1) := by decide +kernel
theorem dX9_walk_16 : decode cX9_walk 16 = .ok (.aload_n 0, 1) := by decide +kernel
theorem dX9_walk_17 : decode cX9_walk 17 = .ok (.getfield 23, 3) := by decide +kernel
theorem dX9_walk_20 : decode cX9_walk 20 = .ok (.iload_n 1, 1) := by decide +kernel
theorem dX9_walk_21 : decode cX9_walk 21 = .ok (.iload_n 2, 1) := by decide +kernel
theorem dX9_walk_22 : decode cX9_walk 22 = .ok (.iload_n 3, 1) := by decide +kernel
theorem dX9_walk_23 : decode cX9_walk 23 = .ok (.invokevirtual 166, 3) := by decide +kernel
theorem dX9_walk_26 : decode cX9_walk 26 = .ok (.ireturn, 1) := by decide +kernel
set_option maxRecDepth 20000 in
theorem ggX9_lamp_X9_isCrossing : GoodIn wsX9_lamp wsX9_isCrossing := goodIn_r _ [5] (by decide +kernel) (by decide +kernel)
set_option maxRecDepth 20000 in
theorem gX9_lamp_X9_isCrossing : GoodIn wsX9_lamp (va_wsS RX9 87 yX9_isCrossing wsX9_isCrossing) := goodIn_app (goodIn_of _ (by decide +kernel)) ggX9_lamp_X9_isCrossing
set_option maxRecDepth 20000 in
theorem ggX9_lamp_X2_standsAt : GoodIn wsX9_lamp wsX2_standsAt := goodIn_r _ [10, 11, 12, 45, 46, 47, 48, 49, 50, 51, 52, 53, 54, 55] (by decide +kernel) (by decide +kernel)
set_option maxRecDepth 20000 in
theorem gX9_lamp_X2_standsAt : GoodIn wsX9_lamp (wsV RX9 169 RX2 yX2_standsAt wsX2_standsAt) := goodIn_app (goodIn_of _ (by decide +kernel)) ggX9_lamp_X2_standsAt
set_option maxRecDepth 20000 in
theorem ggX9_lamp_X2_isLamp : GoodIn wsX9_lamp wsX2_isLamp := goodIn_r _ [16, 11, 45, 46, 47, 48, 49, 50, 51, 52, 53, 54, 55] (by decide +kernel) (by decide +kernel)
set_option maxRecDepth 20000 in
theorem gX9_lamp_X2_isLamp : GoodIn wsX9_lamp (wsV RX9 172 RX2 yX2_isLamp wsX2_isLamp) := goodIn_app (goodIn_of _ (by decide +kernel)) ggX9_lamp_X2_isLamp
set_option maxRecDepth 20000 in
theorem ggX9_lamp_X2_raise : GoodIn wsX9_lamp wsX2_raise := goodIn_r _ [20, 11, 12, 21, 22, 23, 45, 46, 47, 48, 49, 50, 51, 52, 53, 54, 55] (by decide +kernel) (by decide +kernel)
set_option maxRecDepth 20000 in
theorem gX9_lamp_X2_raise : GoodIn wsX9_lamp (wsV RX9 176 RX2 yX2_raise wsX2_raise) := goodIn_app (goodIn_of _ (by decide +kernel)) ggX9_lamp_X2_raise
set_option maxRecDepth 20000 in
theorem ggX9_lamp_X9_lampsChanged : GoodIn wsX9_lamp wsX9_lampsChanged := goodIn_r _ [27, 1, 28, 29, 30, 31, 32, 33, 34, 35, 36, 37, 38, 39, 40, 41, 42, 43, 44, 45, 46, 47, 48, 49, 50, 51, 52, 53, 54, 55, 56, 57, 58] (by decide +kernel) (by decide +kernel)
set_option maxRecDepth 20000 in
theorem gX9_lamp_X9_lampsChanged : GoodIn wsX9_lamp (wsV RX9 179 RX9 yX9_lampsChanged wsX9_lampsChanged) := goodIn_app (goodIn_of _ (by decide +kernel)) ggX9_lamp_X9_lampsChanged
theorem dX9_lamp_0 : decode cX9_lamp 0 = .ok (.iload_n 1, 1) := by decide +kernel
theorem dX9_lamp_1 : decode cX9_lamp 1 = .ok (.invokestatic 87, 3) := by decide +kernel
theorem dX9_lamp_4 : decode cX9_lamp 4 = .ok (.ifCond .eq 12, 3) := by decide +kernel
theorem dX9_lamp_7 : decode cX9_lamp 7 = .ok (.iload_n 2, 1) := by decide +kernel
theorem dX9_lamp_8 : decode cX9_lamp 8 = .ok (.ifCond .lt 8, 3) := by decide +kernel
theorem dX9_lamp_11 : decode cX9_lamp 11 = .ok (.iload_n 2, 1) := by decide +kernel
theorem dX9_lamp_12 : decode cX9_lamp 12 = .ok (.iconst 4, 1) := by decide +kernel
theorem dX9_lamp_13 : decode cX9_lamp 13 = .ok (.if_icmp .le 5, 3) := by decide +kernel
theorem dX9_lamp_16 : decode cX9_lamp 16 = .ok (.iconst (-1), 1) := by decide +kernel
theorem dX9_lamp_17 : decode cX9_lamp 17 = .ok (.ireturn, 1) := by decide +kernel
theorem dX9_lamp_18 : decode cX9_lamp 18 = .ok (.aload_n 0, 1) := by decide +kernel
theorem dX9_lamp_19 : decode cX9_lamp 19 = .ok (.getfield 32, 3) := by decide +kernel
theorem dX9_lamp_22 : decode cX9_lamp 22 = .ok (.iload_n 1, 1) := by decide +kernel
theorem dX9_lamp_23 : decode cX9_lamp 23 = .ok (.invokevirtual 169, 3) := by decide +kernel
theorem dX9_lamp_26 : decode cX9_lamp 26 = .ok (.ifCond .eq 6, 3) := by decide +kernel
theorem dX9_lamp_29 : decode cX9_lamp 29 = .ok (.bipush (-4), 2) := by decide +kernel
theorem dX9_lamp_31 : decode cX9_lamp 31 = .ok (.ireturn, 1) := by decide +kernel
theorem dX9_lamp_32 : decode cX9_lamp 32 = .ok (.iload_n 2, 1) := by decide +kernel
theorem dX9_lamp_33 : decode cX9_lamp 33 = .ok (.iconst 1, 1) := by decide +kernel
theorem dX9_lamp_34 : decode cX9_lamp 34 = .ok (.if_icmp .ne 16, 3) := by decide +kernel
theorem dX9_lamp_37 : decode cX9_lamp 37 = .ok (.aload_n 0, 1) := by decide +kernel
theorem dX9_lamp_38 : decode cX9_lamp 38 = .ok (.getfield 32, 3) := by decide +kernel
theorem dX9_lamp_41 : decode cX9_lamp 41 = .ok (.iload_n 3, 1) := by decide +kernel
theorem dX9_lamp_42 : decode cX9_lamp 42 = .ok (.invokevirtual 172, 3) := by decide +kernel
theorem dX9_lamp_45 : decode cX9_lamp 45 = .ok (.ifCond .ne 5, 3) := by decide +kernel
theorem dX9_lamp_48 : decode cX9_lamp 48 = .ok (.iconst (-1), 1) := by decide +kernel
theorem dX9_lamp_49 : decode cX9_lamp 49 = .ok (.ireturn, 1) := by decide +kernel
theorem dX9_lamp_50 : decode cX9_lamp 50 = .ok (.aload_n 0, 1) := by decide +kernel
theorem dX9_lamp_51 : decode cX9_lamp 51 = .ok (.getfield 32, 3) := by decide +kernel
theorem dX9_lamp_54 : decode cX9_lamp 54 = .ok (.getfield 175, 3) := by decide +kernel
theorem dX9_lamp_57 : decode cX9_lamp 57 = .ok (.bipush 12, 2) := by decide +kernel
theorem dX9_lamp_59 : decode cX9_lamp 59 = .ok (.if_icmp .lt 6, 3) := by decide +kernel
theorem dX9_lamp_62 : decode cX9_lamp 62 = .ok (.bipush (-2), 2) := by decide +kernel
theorem dX9_lamp_64 : decode cX9_lamp 64 = .ok (.ireturn, 1) := by decide +kernel
theorem dX9_lamp_65 : decode cX9_lamp 65 = .ok (.aload_n 0, 1) := by decide +kernel
theorem dX9_lamp_66 : decode cX9_lamp 66 = .ok (.getfield 32, 3) := by decide +kernel
theorem dX9_lamp_69 : decode cX9_lamp 69 = .ok (.iload_n 1, 1) := by decide +kernel
theorem dX9_lamp_70 : decode cX9_lamp 70 = .ok (.iload_n 2, 1) := by decide +kernel
theorem dX9_lamp_71 : decode cX9_lamp 71 = .ok (.iload_n 3, 1) := by decide +kernel
theorem dX9_lamp_72 : decode cX9_lamp 72 = .ok (.invokevirtual 176, 3) := by decide +kernel
theorem dX9_lamp_75 : decode cX9_lamp 75 = .ok (.istore 4, 2) := by decide +kernel
theorem dX9_lamp_77 : decode cX9_lamp 77 = .ok (.aload_n 0, 1) := by decide +kernel
theorem dX9_lamp_78 : decode cX9_lamp 78 = .ok (.invokevirtual 179, 3) := by decide +kernel
theorem dX9_lamp_81 : decode cX9_lamp 81 = .ok (.iload 4, 2) := by decide +kernel
theorem dX9_lamp_83 : decode cX9_lamp 83 = .ok (.ireturn, 1) := by decide +kernel
set_option maxRecDepth 20000 in
theorem ggX9_dark_X2_isLamp : GoodIn wsX9_dark wsX2_isLamp := goodIn_r _ [6, 7, 42, 43, 44, 45, 46, 47, 48, 49, 50, 51, 52] (by decide +kernel) (by decide +kernel)
set_option maxRecDepth 20000 in
theorem gX9_dark_X2_isLamp : GoodIn wsX9_dark (wsV RX9 172 RX2 yX2_isLamp wsX2_isLamp) := goodIn_app (goodIn_of _ (by decide +kernel)) ggX9_dark_X2_isLamp
set_option maxRecDepth 20000 in
theorem ggX9_dark_X2_isLive : GoodIn wsX9_dark wsX2_isLive := goodIn_r _ [11, 12, 13, 3, 4, 5, 6, 7, 14, 15, 16, 42, 43, 44, 45, 46, 47, 48, 49, 50, 51, 52] (by decide +kernel) (by decide +kernel)
set_option maxRecDepth 20000 in
theorem gX9_dark_X2_isLive : GoodIn wsX9_dark (wsV RX9 183 RX2 yX2_isLive wsX2_isLive) := goodIn_app (goodIn_of _ (by decide +kernel)) ggX9_dark_X2_isLive
set_option maxRecDepth 20000 in
theorem ggX9_dark_X2_flip : GoodIn wsX9_dark wsX2_flip := goodIn_r _ [20, 12, 42, 43, 44, 45, 46, 47, 48, 49, 50, 51, 52] (by decide +kernel) (by decide +kernel)
set_option maxRecDepth 20000 in
theorem gX9_dark_X2_flip : GoodIn wsX9_dark (wsV RX9 186 RX2 yX2_flip wsX2_flip) := goodIn_app (goodIn_of _ (by decide +kernel)) ggX9_dark_X2_flip
set_option maxRecDepth 20000 in
theorem ggX9_dark_X9_lampsChanged : GoodIn wsX9_dark wsX9_lampsChanged := goodIn_r _ [24, 1, 25, 26, 27, 28, 29, 30, 31, 32, 33, 34, 35, 36, 37, 38, 39, 40, 41, 42, 43, 44, 45, 46, 47, 48, 49, 50, 51, 52, 53, 54, 55] (by decide +kernel) (by decide +kernel)
set_option maxRecDepth 20000 in
theorem gX9_dark_X9_lampsChanged : GoodIn wsX9_dark (wsV RX9 179 RX9 yX9_lampsChanged wsX9_lampsChanged) := goodIn_app (goodIn_of _ (by decide +kernel)) ggX9_dark_X9_lampsChanged
theorem dX9_dark_0 : decode cX9_dark 0 = .ok (.aload_n 0, 1) := by decide +kernel
theorem dX9_dark_1 : decode cX9_dark 1 = .ok (.getfield 32, 3) := by decide +kernel
theorem dX9_dark_4 : decode cX9_dark 4 = .ok (.iload_n 1, 1) := by decide +kernel
theorem dX9_dark_5 : decode cX9_dark 5 = .ok (.invokevirtual 172, 3) := by decide +kernel
theorem dX9_dark_8 : decode cX9_dark 8 = .ok (.ifCond .ne 5, 3) := by decide +kernel
theorem dX9_dark_11 : decode cX9_dark 11 = .ok (.iconst (-1), 1) := by decide +kernel
theorem dX9_dark_12 : decode cX9_dark 12 = .ok (.ireturn, 1) := by decide +kernel
theorem dX9_dark_13 : decode cX9_dark 13 = .ok (.aload_n 0, 1) := by decide +kernel
theorem dX9_dark_14 : decode cX9_dark 14 = .ok (.getfield 32, 3) := by decide +kernel
theorem dX9_dark_17 : decode cX9_dark 17 = .ok (.getfield 182, 3) := by decide +kernel
theorem dX9_dark_20 : decode cX9_dark 20 = .ok (.iload_n 1, 1) := by decide +kernel
theorem dX9_dark_21 : decode cX9_dark 21 = .ok (.iaload, 1) := by decide +kernel
theorem dX9_dark_22 : decode cX9_dark 22 = .ok (.iconst 3, 1) := by decide +kernel
theorem dX9_dark_23 : decode cX9_dark 23 = .ok (.if_icmp .eq 19, 3) := by decide +kernel
theorem dX9_dark_26 : decode cX9_dark 26 = .ok (.aload_n 0, 1) := by decide +kernel
theorem dX9_dark_27 : decode cX9_dark 27 = .ok (.getfield 32, 3) := by decide +kernel
theorem dX9_dark_30 : decode cX9_dark 30 = .ok (.getfield 182, 3) := by decide +kernel
theorem dX9_dark_33 : decode cX9_dark 33 = .ok (.iload_n 1, 1) := by decide +kernel
theorem dX9_dark_34 : decode cX9_dark 34 = .ok (.iaload, 1) := by decide +kernel
theorem dX9_dark_35 : decode cX9_dark 35 = .ok (.iconst 4, 1) := by decide +kernel
theorem dX9_dark_36 : decode cX9_dark 36 = .ok (.if_icmp .eq 6, 3) := by decide +kernel
theorem dX9_dark_39 : decode cX9_dark 39 = .ok (.bipush (-5), 2) := by decide +kernel
theorem dX9_dark_41 : decode cX9_dark 41 = .ok (.ireturn, 1) := by decide +kernel
theorem dX9_dark_42 : decode cX9_dark 42 = .ok (.aload_n 0, 1) := by decide +kernel
theorem dX9_dark_43 : decode cX9_dark 43 = .ok (.getfield 32, 3) := by decide +kernel
theorem dX9_dark_46 : decode cX9_dark 46 = .ok (.iload_n 1, 1) := by decide +kernel
theorem dX9_dark_47 : decode cX9_dark 47 = .ok (.invokevirtual 183, 3) := by decide +kernel
theorem dX9_dark_50 : decode cX9_dark 50 = .ok (.iload_n 2, 1) := by decide +kernel
theorem dX9_dark_51 : decode cX9_dark 51 = .ok (.if_icmp .eq 5, 3) := by decide +kernel
theorem dX9_dark_54 : decode cX9_dark 54 = .ok (.iconst 0, 1) := by decide +kernel
theorem dX9_dark_55 : decode cX9_dark 55 = .ok (.ireturn, 1) := by decide +kernel
theorem dX9_dark_56 : decode cX9_dark 56 = .ok (.aload_n 0, 1) := by decide +kernel
theorem dX9_dark_57 : decode cX9_dark 57 = .ok (.getfield 32, 3) := by decide +kernel
theorem dX9_dark_60 : decode cX9_dark 60 = .ok (.iload_n 1, 1) := by decide +kernel
theorem dX9_dark_61 : decode cX9_dark 61 = .ok (.invokevirtual 186, 3) := by decide +kernel
theorem dX9_dark_64 : decode cX9_dark 64 = .ok (.aload_n 0, 1) := by decide +kernel
theorem dX9_dark_65 : decode cX9_dark 65 = .ok (.invokevirtual 179, 3) := by decide +kernel
theorem dX9_dark_68 : decode cX9_dark 68 = .ok (.iconst 1, 1) := by decide +kernel
theorem dX9_dark_69 : decode cX9_dark 69 = .ok (.ireturn, 1) := by decide +kernel
set_option maxRecDepth 20000 in
theorem ggX9_twin_X2_isLamp : GoodIn wsX9_twin wsX2_isLamp := goodIn_r _ [6, 7, 78, 79, 80, 81, 82, 83, 84, 85, 86, 87, 88] (by decide +kernel) (by decide +kernel)
set_option maxRecDepth 20000 in
theorem gX9_twin_X2_isLamp : GoodIn wsX9_twin (wsV RX9 172 RX2 yX2_isLamp wsX2_isLamp) := goodIn_app (goodIn_of _ (by decide +kernel)) ggX9_twin_X2_isLamp
set_option maxRecDepth 20000 in
theorem ggX9_twin_X2_survey : GoodIn wsX9_twin wsX2_survey := goodIn_r _ [11, 12, 7, 13, 14, 15, 16, 17, 18, 19, 20, 21, 22, 23, 24, 25, 26, 27, 28, 29, 30, 31, 32, 33, 34, 35, 36, 37, 38, 39, 40, 41, 42, 43, 44, 45, 46, 5, 47, 48, 49, 50, 51, 52, 53, 54, 55, 56, 57, 58, 59, 60, 61, 62, 63, 64, 3, 4, 6, 65, 66, 67, 78, 79, 80, 81, 82, 83, 84, 85, 86, 87, 88, 89, 90, 91, 92, 93, 94, 95] (by decide +kernel) (by decide +kernel)
set_option maxRecDepth 20000 in
theorem gX9_twin_X2_survey : GoodIn wsX9_twin (wsV RX9 189 RX2 yX2_survey wsX2_survey) := goodIn_app (goodIn_of _ (by decide +kernel)) ggX9_twin_X2_survey
theorem dX9_twin_0 : decode cX9_twin 0 = .ok (.aload_n 0, 1) := by decide +kernel
theorem dX9_twin_1 : decode cX9_twin 1 = .ok (.getfield 32, 3) := by decide +kernel
theorem dX9_twin_4 : decode cX9_twin 4 = .ok (.iload_n 1, 1) := by decide +kernel
theorem dX9_twin_5 : decode cX9_twin 5 = .ok (.invokevirtual 172, 3) := by decide +kernel
theorem dX9_twin_8 : decode cX9_twin 8 = .ok (.ifCond .ne 6, 3) := by decide +kernel
theorem dX9_twin_11 : decode cX9_twin 11 = .ok (.bipush (-2), 2) := by decide +kernel
theorem dX9_twin_13 : decode cX9_twin 13 = .ok (.ireturn, 1) := by decide +kernel
theorem dX9_twin_14 : decode cX9_twin 14 = .ok (.aload_n 0, 1) := by decide +kernel
theorem dX9_twin_15 : decode cX9_twin 15 = .ok (.getfield 32, 3) := by decide +kernel
theorem dX9_twin_18 : decode cX9_twin 18 = .ok (.getfield 182, 3) := by decide +kernel
theorem dX9_twin_21 : decode cX9_twin 21 = .ok (.iload_n 1, 1) := by decide +kernel
theorem dX9_twin_22 : decode cX9_twin 22 = .ok (.iaload, 1) := by decide +kernel
theorem dX9_twin_23 : decode cX9_twin 23 = .ok (.iconst 1, 1) := by decide +kernel
theorem dX9_twin_24 : decode cX9_twin 24 = .ok (.if_icmp .eq 19, 3) := by decide +kernel
theorem dX9_twin_27 : decode cX9_twin 27 = .ok (.aload_n 0, 1) := by decide +kernel
theorem dX9_twin_28 : decode cX9_twin 28 = .ok (.getfield 32, 3) := by decide +kernel
theorem dX9_twin_31 : decode cX9_twin 31 = .ok (.getfield 182, 3) := by decide +kernel
theorem dX9_twin_34 : decode cX9_twin 34 = .ok (.iload_n 1, 1) := by decide +kernel
theorem dX9_twin_35 : decode cX9_twin 35 = .ok (.iaload, 1) := by decide +kernel
theorem dX9_twin_36 : decode cX9_twin 36 = .ok (.iconst 2, 1) := by decide +kernel
theorem dX9_twin_37 : decode cX9_twin 37 = .ok (.if_icmp .eq 6, 3) := by decide +kernel
theorem dX9_twin_40 : decode cX9_twin 40 = .ok (.bipush (-5), 2) := by decide +kernel
theorem dX9_twin_42 : decode cX9_twin 42 = .ok (.ireturn, 1) := by decide +kernel
theorem dX9_twin_43 : decode cX9_twin 43 = .ok (.aload_n 0, 1) := by decide +kernel
theorem dX9_twin_44 : decode cX9_twin 44 = .ok (.getfield 32, 3) := by decide +kernel
theorem dX9_twin_47 : decode cX9_twin 47 = .ok (.invokevirtual 189, 3) := by decide +kernel
theorem dX9_twin_50 : decode cX9_twin 50 = .ok (.aload_n 0, 1) := by decide +kernel
theorem dX9_twin_51 : decode cX9_twin 51 = .ok (.getfield 32, 3) := by decide +kernel
theorem dX9_twin_54 : decode cX9_twin 54 = .ok (.getfield 192, 3) := by decide +kernel
theorem dX9_twin_57 : decode cX9_twin 57 = .ok (.iload_n 1, 1) := by decide +kernel
theorem dX9_twin_58 : decode cX9_twin 58 = .ok (.iaload, 1) := by decide +kernel
theorem dX9_twin_59 : decode cX9_twin 59 = .ok (.ireturn, 1) := by decide +kernel
set_option maxRecDepth 20000 in
theorem ggX9_of_X2_isLamp : GoodIn wsX9_of wsX2_isLamp := goodIn_r _ [7, 8, 33, 34, 35, 36, 37, 38, 39, 40, 41, 42, 43] (by decide +kernel) (by decide +kernel)
set_option maxRecDepth 20000 in
theorem gX9_of_X2_isLamp : GoodIn wsX9_of (wsV RX9 172 RX2 yX2_isLamp wsX2_isLamp) := goodIn_app (goodIn_of _ (by decide +kernel)) ggX9_of_X2_isLamp
set_option maxRecDepth 20000 in
theorem ggX9_of_X2_worthOf : GoodIn wsX9_of wsX2_worthOf := goodIn_r _ [12, 13, 33, 34, 35, 36, 37, 38, 39, 40, 41, 42, 43] (by decide +kernel) (by decide +kernel)
set_option maxRecDepth 20000 in
theorem gX9_of_X2_worthOf : GoodIn wsX9_of (wsV RX9 199 RX2 yX2_worthOf wsX2_worthOf) := goodIn_app (goodIn_of _ (by decide +kernel)) ggX9_of_X2_worthOf
set_option maxRecDepth 20000 in
theorem ggX9_of_X2_isLive : GoodIn wsX9_of wsX2_isLive := goodIn_r _ [17, 18, 19, 4, 5, 6, 7, 8, 20, 21, 22, 33, 34, 35, 36, 37, 38, 39, 40, 41, 42, 43] (by decide +kernel) (by decide +kernel)
set_option maxRecDepth 20000 in
theorem gX9_of_X2_isLive : GoodIn wsX9_of (wsV RX9 183 RX2 yX2_isLive wsX2_isLive) := goodIn_app (goodIn_of _ (by decide +kernel)) ggX9_of_X2_isLive
theorem dX9_of_0 : decode cX9_of 0 = .ok (.aload_n 0, 1) := by decide +kernel
theorem dX9_of_1 : decode cX9_of 1 = .ok (.getfield 32, 3) := by decide +kernel
theorem dX9_of_4 : decode cX9_of 4 = .ok (.iload_n 1, 1) := by decide +kernel
theorem dX9_of_5 : decode cX9_of 5 = .ok (.invokevirtual 172, 3) := by decide +kernel
theorem dX9_of_8 : decode cX9_of 8 = .ok (.ifCond .ne 6, 3) := by decide +kernel
theorem dX9_of_11 : decode cX9_of 11 = .ok (.ldc 195, 2) := by decide +kernel
theorem dX9_of_13 : decode cX9_of 13 = .ok (.ireturn, 1) := by decide +kernel
theorem dX9_of_14 : decode cX9_of 14 = .ok (.iload_n 2, 1) := by decide +kernel
theorem dX9_of_15 : decode cX9_of 15 = .ok (.tableswitch 89 0 4 #[33, 43, 53, 62, 79], 33) := by decide +kernel
theorem dX9_of_48 : decode cX9_of 48 = .ok (.aload_n 0, 1) := by decide +kernel
theorem dX9_of_49 : decode cX9_of 49 = .ok (.getfield 32, 3) := by decide +kernel
theorem dX9_of_52 : decode cX9_of 52 = .ok (.getfield 196, 3) := by decide +kernel
theorem dX9_of_55 : decode cX9_of 55 = .ok (.iload_n 1, 1) := by decide +kernel
theorem dX9_of_56 : decode cX9_of 56 = .ok (.iaload, 1) := by decide +kernel
theorem dX9_of_57 : decode cX9_of 57 = .ok (.ireturn, 1) := by decide +kernel
theorem dX9_of_58 : decode cX9_of 58 = .ok (.aload_n 0, 1) := by decide +kernel
theorem dX9_of_59 : decode cX9_of 59 = .ok (.getfield 32, 3) := by decide +kernel
theorem dX9_of_62 : decode cX9_of 62 = .ok (.getfield 182, 3) := by decide +kernel
theorem dX9_of_65 : decode cX9_of 65 = .ok (.iload_n 1, 1) := by decide +kernel
theorem dX9_of_66 : decode cX9_of 66 = .ok (.iaload, 1) := by decide +kernel
theorem dX9_of_67 : decode cX9_of 67 = .ok (.ireturn, 1) := by decide +kernel
theorem dX9_of_68 : decode cX9_of 68 = .ok (.aload_n 0, 1) := by decide +kernel
theorem dX9_of_69 : decode cX9_of 69 = .ok (.getfield 32, 3) := by decide +kernel
theorem dX9_of_72 : decode cX9_of 72 = .ok (.iload_n 1, 1) := by decide +kernel
theorem dX9_of_73 : decode cX9_of 73 = .ok (.invokevirtual 199, 3) := by decide +kernel
theorem dX9_of_76 : decode cX9_of 76 = .ok (.ireturn, 1) := by decide +kernel
theorem dX9_of_77 : decode cX9_of 77 = .ok (.aload_n 0, 1) := by decide +kernel
theorem dX9_of_78 : decode cX9_of 78 = .ok (.getfield 32, 3) := by decide +kernel
theorem dX9_of_81 : decode cX9_of 81 = .ok (.iload_n 1, 1) := by decide +kernel
theorem dX9_of_82 : decode cX9_of 82 = .ok (.invokevirtual 183, 3) := by decide +kernel
theorem dX9_of_85 : decode cX9_of 85 = .ok (.ifCond .eq 7, 3) := by decide +kernel
theorem dX9_of_88 : decode cX9_of 88 = .ok (.iconst 0, 1) := by decide +kernel
theorem dX9_of_89 : decode cX9_of 89 = .ok (.goto 4, 3) := by decide +kernel
theorem dX9_of_92 : decode cX9_of 92 = .ok (.iconst 1, 1) := by decide +kernel
theorem dX9_of_93 : decode cX9_of 93 = .ok (.ireturn, 1) := by decide +kernel
theorem dX9_of_94 : decode cX9_of 94 = .ok (.aload_n 0, 1) := by decide +kernel
theorem dX9_of_95 : decode cX9_of 95 = .ok (.getfield 32, 3) := by decide +kernel
theorem dX9_of_98 : decode cX9_of 98 = .ok (.getfield 203, 3) := by decide +kernel
theorem dX9_of_101 : decode cX9_of 101 = .ok (.iload_n 1, 1) := by decide +kernel
theorem dX9_of_102 : decode cX9_of 102 = .ok (.iaload, 1) := by decide +kernel
theorem dX9_of_103 : decode cX9_of 103 = .ok (.ireturn, 1) := by decide +kernel
theorem dX9_of_104 : decode cX9_of 104 = .ok (.ldc 195, 2) := by decide +kernel
theorem dX9_of_106 : decode cX9_of 106 = .ok (.ireturn, 1) := by decide +kernel
set_option maxRecDepth 20000 in
theorem ggX9_many_X2_liveCount : GoodIn wsX9_many wsX2_liveCount := goodIn_r _ [9, 10, 11, 12, 13, 14, 15, 16, 17, 48, 49, 50, 51, 52, 53, 54, 55, 56, 57, 58] (by decide +kernel) (by decide +kernel)
set_option maxRecDepth 20000 in
theorem gX9_many_X2_liveCount : GoodIn wsX9_many (wsV RX9 206 RX2 yX2_liveCount wsX2_liveCount) := goodIn_app (goodIn_of _ (by decide +kernel)) ggX9_many_X2_liveCount
set_option maxRecDepth 20000 in
theorem ggX9_many_X2_worthOfLive : GoodIn wsX9_many wsX2_worthOfLive := goodIn_r _ [21, 22, 10, 23, 24, 25, 26, 27, 28, 8, 29, 30, 48, 49, 50, 51, 52, 53, 54, 55, 56, 57, 58] (by decide +kernel) (by decide +kernel)
set_option maxRecDepth 20000 in
theorem gX9_many_X2_worthOfLive : GoodIn wsX9_many (wsV RX9 212 RX2 yX2_worthOfLive wsX2_worthOfLive) := goodIn_app (goodIn_of _ (by decide +kernel)) ggX9_many_X2_worthOfLive
theorem dX9_many_0 : decode cX9_many 0 = .ok (.iload_n 1, 1) := by decide +kernel
theorem dX9_many_1 : decode cX9_many 1 = .ok (.tableswitch 87 0 5 #[39, 47, 55, 63, 71, 79], 39) := by decide +kernel
theorem dX9_many_40 : decode cX9_many 40 = .ok (.aload_n 0, 1) := by decide +kernel
theorem dX9_many_41 : decode cX9_many 41 = .ok (.getfield 23, 3) := by decide +kernel
theorem dX9_many_44 : decode cX9_many 44 = .ok (.getfield 95, 3) := by decide +kernel
theorem dX9_many_47 : decode cX9_many 47 = .ok (.ireturn, 1) := by decide +kernel
theorem dX9_many_48 : decode cX9_many 48 = .ok (.aload_n 0, 1) := by decide +kernel
theorem dX9_many_49 : decode cX9_many 49 = .ok (.getfield 32, 3) := by decide +kernel
theorem dX9_many_52 : decode cX9_many 52 = .ok (.getfield 175, 3) := by decide +kernel
theorem dX9_many_55 : decode cX9_many 55 = .ok (.ireturn, 1) := by decide +kernel
theorem dX9_many_56 : decode cX9_many 56 = .ok (.aload_n 0, 1) := by decide +kernel
theorem dX9_many_57 : decode cX9_many 57 = .ok (.getfield 32, 3) := by decide +kernel
theorem dX9_many_60 : decode cX9_many 60 = .ok (.invokevirtual 206, 3) := by decide +kernel
theorem dX9_many_63 : decode cX9_many 63 = .ok (.ireturn, 1) := by decide +kernel
theorem dX9_many_64 : decode cX9_many 64 = .ok (.aload_n 0, 1) := by decide +kernel
theorem dX9_many_65 : decode cX9_many 65 = .ok (.getfield 80, 3) := by decide +kernel
theorem dX9_many_68 : decode cX9_many 68 = .ok (.getfield 210, 3) := by decide +kernel
theorem dX9_many_71 : decode cX9_many 71 = .ok (.ireturn, 1) := by decide +kernel
theorem dX9_many_72 : decode cX9_many 72 = .ok (.aload_n 0, 1) := by decide +kernel
theorem dX9_many_73 : decode cX9_many 73 = .ok (.getfield 41, 3) := by decide +kernel
theorem dX9_many_76 : decode cX9_many 76 = .ok (.getfield 211, 3) := by decide +kernel
theorem dX9_many_79 : decode cX9_many 79 = .ok (.ireturn, 1) := by decide +kernel
theorem dX9_many_80 : decode cX9_many 80 = .ok (.aload_n 0, 1) := by decide +kernel
theorem dX9_many_81 : decode cX9_many 81 = .ok (.getfield 32, 3) := by decide +kernel
theorem dX9_many_84 : decode cX9_many 84 = .ok (.invokevirtual 212, 3) := by decide +kernel
theorem dX9_many_87 : decode cX9_many 87 = .ok (.ireturn, 1) := by decide +kernel
theorem dX9_many_88 : decode cX9_many 88 = .ok (.iconst (-1), 1) := by decide +kernel
theorem dX9_many_89 : decode cX9_many 89 = .ok (.ireturn, 1) := by decide +kernel
set_option maxRecDepth 20000 in
theorem ggX9_least_X9_isLarge : GoodIn wsX9_least wsX9_isLarge := goodIn_r _ [7, 8, 9, 10, 11, 12, 13, 14, 15, 16, 17, 18, 19, 20, 21, 143, 144, 145, 146, 147, 148, 149, 150, 151, 152, 163, 164, 165, 166, 167, 168, 169, 170, 171, 172, 173] (by decide +kernel) (by decide +kernel)
set_option maxRecDepth 20000 in
theorem gX9_least_X9_isLarge : GoodIn wsX9_least (wsV RX9 215 RX9 yX9_isLarge wsX9_isLarge) := goodIn_app (goodIn_of _ (by decide +kernel)) ggX9_least_X9_isLarge
set_option maxRecDepth 20000 in
theorem ggX9_least_X5_begin : GoodIn wsX9_least wsX5_begin := goodIn_r _ [26, 27, 28, 29, 30, 31, 32, 33, 34, 35, 36, 37, 38, 39, 40, 41, 12, 42, 43, 44, 45, 46, 47, 48, 49, 50, 51, 52, 53, 54, 55, 56, 57, 58, 59, 60, 61, 62, 63, 64, 65, 66, 67, 68, 69, 70, 71, 72, 73, 74, 75, 76, 77, 78, 79, 80, 81, 82, 83, 84, 85, 86, 87, 88, 89, 90, 91, 92, 93, 94, 14, 95, 96, 97, 98, 99, 6, 100, 101, 102, 153, 154, 155, 156, 157, 158, 159, 160, 161, 162, 163, 164, 165, 166, 167, 168, 169, 170, 171, 172, 173, 174, 175, 176, 177, 178, 179, 180] (by decide +kernel) (by decide +kernel)
set_option maxRecDepth 20000 in
theorem gX9_least_X5_begin : GoodIn wsX9_least (wsV RX9 219 RX5 yX5_begin wsX5_begin) := goodIn_app (goodIn_of _ (by decide +kernel)) ggX9_least_X5_begin
set_option maxRecDepth 20000 in
theorem ggX9_least_X5_run : GoodIn wsX9_least wsX5_run := goodIn_r _ [106, 37, 107, 38, 36, 35, 108, 109, 110, 25, 111, 27, 112, 113, 114, 115, 116, 117, 118, 119, 120, 33, 34, 121, 29, 30, 31, 32, 99, 6, 100, 122, 123, 124, 125, 28, 126, 127, 128, 129, 130, 131, 132, 133, 134, 153, 154, 155, 156, 157, 158, 159, 160, 161, 162, 163, 164, 165, 166, 167, 168, 169, 170, 171, 172, 173] (by decide +kernel) (by decide +kernel)
set_option maxRecDepth 20000 in
theorem gX9_least_X5_run : GoodIn wsX9_least (wsV RX9 222 RX5 yX5_run wsX5_run) := goodIn_app (goodIn_of _ (by decide +kernel)) ggX9_least_X5_run
set_option maxRecDepth 20000 in
theorem ggX9_least_X6_copyFrom : GoodIn wsX9_least wsX6_copyFrom := goodIn_r _ [139, 140, 141, 30, 31, 32, 142, 181, 182, 183] (by decide +kernel) (by decide +kernel)
set_option maxRecDepth 20000 in
theorem gX9_least_X6_copyFrom : GoodIn wsX9_least (wsV RX9 230 RX6 yX6_copyFrom wsX6_copyFrom) := goodIn_app (goodIn_of _ (by decide +kernel)) ggX9_least_X6_copyFrom
theorem dX9_least_0 : decode cX9_least 0 = .ok (.aload_n 0, 1) := by decide +kernel
theorem dX9_least_1 : decode cX9_least 1 = .ok (.invokevirtual 215, 3) := by decide +kernel
theorem dX9_least_4 : decode cX9_least 4 = .ok (.ifCond .eq 6, 3) := by decide +kernel
theorem dX9_least_7 : decode cX9_least 7 = .ok (.bipush (-8), 2) := by decide +kernel
theorem dX9_least_9 : decode cX9_least 9 = .ok (.ireturn, 1) := by decide +kernel
theorem dX9_least_10 : decode cX9_least 10 = .ok (.aload_n 0, 1) := by decide +kernel
theorem dX9_least_11 : decode cX9_least 11 = .ok (.getfield 48, 3) := by decide +kernel
theorem dX9_least_14 : decode cX9_least 14 = .ok (.invokevirtual 219, 3) := by decide +kernel
theorem dX9_least_17 : decode cX9_least 17 = .ok (.aload_n 0, 1) := by decide +kernel
theorem dX9_least_18 : decode cX9_least 18 = .ok (.getfield 48, 3) := by decide +kernel
theorem dX9_least_21 : decode cX9_least 21 = .ok (.invokevirtual 222, 3) := by decide +kernel
theorem dX9_least_24 : decode cX9_least 24 = .ok (.ifCond .ne 6, 3) := by decide +kernel
theorem dX9_least_27 : decode cX9_least 27 = .ok (.bipush (-7), 2) := by decide +kernel
theorem dX9_least_29 : decode cX9_least 29 = .ok (.ireturn, 1) := by decide +kernel
theorem dX9_least_30 : decode cX9_least 30 = .ok (.aload_n 0, 1) := by decide +kernel
theorem dX9_least_31 : decode cX9_least 31 = .ok (.getfield 41, 3) := by decide +kernel
theorem dX9_least_34 : decode cX9_least 34 = .ok (.aload_n 0, 1) := by decide +kernel
theorem dX9_least_35 : decode cX9_least 35 = .ok (.getfield 48, 3) := by decide +kernel
theorem dX9_least_38 : decode cX9_least 38 = .ok (.getfield 225, 3) := by decide +kernel
theorem dX9_least_41 : decode cX9_least 41 = .ok (.aload_n 0, 1) := by decide +kernel
theorem dX9_least_42 : decode cX9_least 42 = .ok (.getfield 48, 3) := by decide +kernel
theorem dX9_least_45 : decode cX9_least 45 = .ok (.getfield 228, 3) := by decide +kernel
theorem dX9_least_48 : decode cX9_least 48 = .ok (.invokevirtual 230, 3) := by decide +kernel
theorem dX9_least_51 : decode cX9_least 51 = .ok (.aload_n 0, 1) := by decide +kernel
theorem dX9_least_52 : decode cX9_least 52 = .ok (.getfield 48, 3) := by decide +kernel
theorem dX9_least_55 : decode cX9_least 55 = .ok (.getfield 234, 3) := by decide +kernel
theorem dX9_least_58 : decode cX9_least 58 = .ok (.ireturn, 1) := by decide +kernel
set_option maxRecDepth 20000 in
theorem ggX9_second_X6_isWhole : GoodIn wsX9_second wsX6_isWhole := goodIn_r _ [7, 8, 9, 10, 11, 12, 13, 14, 15, 16, 17, 18, 19, 20, 21, 22, 176, 177, 178, 179, 180, 181, 182, 183, 184, 185, 186, 187, 188, 189] (by decide +kernel) (by decide +kernel)
set_option maxRecDepth 20000 in
theorem gX9_second_X6_isWhole : GoodIn wsX9_second (wsV RX9 237 RX6 yX6_isWhole wsX6_isWhole) := goodIn_app (goodIn_of _ (by decide +kernel)) ggX9_second_X6_isWhole
set_option maxRecDepth 20000 in
theorem ggX9_second_X9_isLarge : GoodIn wsX9_second wsX9_isLarge := goodIn_r _ [27, 28, 29, 11, 12, 13, 14, 15, 16, 17, 18, 19, 20, 21, 22, 156, 157, 158, 159, 160, 161, 162, 163, 164, 165, 179, 180, 181, 182, 183, 184, 185, 186, 187, 188, 189] (by decide +kernel) (by decide +kernel)
set_option maxRecDepth 20000 in
theorem gX9_second_X9_isLarge : GoodIn wsX9_second (wsV RX9 215 RX9 yX9_isLarge wsX9_isLarge) := goodIn_app (goodIn_of _ (by decide +kernel)) ggX9_second_X9_isLarge
set_option maxRecDepth 20000 in
theorem ggX9_second_X5_begin : GoodIn wsX9_second wsX5_begin := goodIn_r _ [34, 35, 36, 37, 38, 39, 40, 41, 42, 43, 44, 45, 46, 47, 48, 49, 13, 50, 51, 52, 53, 54, 55, 56, 57, 58, 59, 60, 61, 62, 63, 64, 65, 66, 67, 68, 69, 70, 71, 72, 73, 74, 75, 76, 77, 78, 79, 80, 81, 82, 83, 84, 85, 86, 87, 88, 89, 90, 91, 92, 93, 94, 95, 96, 97, 98, 99, 100, 101, 102, 15, 103, 104, 105, 106, 107, 26, 108, 109, 110, 166, 167, 168, 169, 170, 171, 172, 173, 174, 175, 179, 180, 181, 182, 183, 184, 185, 186, 187, 188, 189, 190, 191, 192, 193, 194, 195, 196] (by decide +kernel) (by decide +kernel)
set_option maxRecDepth 20000 in
theorem gX9_second_X5_begin : GoodIn wsX9_second (wsV RX9 219 RX5 yX5_begin wsX5_begin) := goodIn_app (goodIn_of _ (by decide +kernel)) ggX9_second_X5_begin
set_option maxRecDepth 20000 in
theorem ggX9_second_X6_writeOut : GoodIn wsX9_second wsX6_writeOut := goodIn_r _ [114, 8, 115, 116, 117, 118, 6, 119, 120, 121, 122, 123, 176, 177, 178] (by decide +kernel) (by decide +kernel)
set_option maxRecDepth 20000 in
theorem gX9_second_X6_writeOut : GoodIn wsX9_second (wsV RX9 243 RX6 yX6_writeOut wsX6_writeOut) := goodIn_app (goodIn_of _ (by decide +kernel)) ggX9_second_X6_writeOut
set_option maxRecDepth 20000 in
theorem ggX9_second_X5_run : GoodIn wsX9_second wsX5_run := goodIn_r _ [127, 45, 128, 46, 44, 43, 129, 130, 131, 33, 132, 35, 133, 134, 135, 136, 137, 138, 139, 140, 141, 41, 42, 142, 37, 38, 39, 40, 107, 26, 108, 143, 144, 145, 146, 36, 147, 148, 149, 150, 151, 152, 153, 154, 155, 166, 167, 168, 169, 170, 171, 172, 173, 174, 175, 179, 180, 181, 182, 183, 184, 185, 186, 187, 188, 189] (by decide +kernel) (by decide +kernel)
set_option maxRecDepth 20000 in
theorem gX9_second_X5_run : GoodIn wsX9_second (wsV RX9 222 RX5 yX5_run wsX5_run) := goodIn_app (goodIn_of _ (by decide +kernel)) ggX9_second_X5_run
theorem dX9_second_0 : decode cX9_second 0 = .ok (.aload_n 0, 1) := by decide +kernel
theorem dX9_second_1 : decode cX9_second 1 = .ok (.getfield 41, 3) := by decide +kernel
theorem dX9_second_4 : decode cX9_second 4 = .ok (.invokevirtual 237, 3) := by decide +kernel
theorem dX9_second_7 : decode cX9_second 7 = .ok (.ifCond .ne 6, 3) := by decide +kernel
theorem dX9_second_10 : decode cX9_second 10 = .ok (.bipush (-4), 2) := by decide +kernel
theorem dX9_second_12 : decode cX9_second 12 = .ok (.ireturn, 1) := by decide +kernel
theorem dX9_second_13 : decode cX9_second 13 = .ok (.aload_n 0, 1) := by decide +kernel
theorem dX9_second_14 : decode cX9_second 14 = .ok (.invokevirtual 215, 3) := by decide +kernel
theorem dX9_second_17 : decode cX9_second 17 = .ok (.ifCond .eq 6, 3) := by decide +kernel
theorem dX9_second_20 : decode cX9_second 20 = .ok (.bipush (-8), 2) := by decide +kernel
theorem dX9_second_22 : decode cX9_second 22 = .ok (.ireturn, 1) := by decide +kernel
theorem dX9_second_23 : decode cX9_second 23 = .ok (.aload_n 0, 1) := by decide +kernel
theorem dX9_second_24 : decode cX9_second 24 = .ok (.getfield 48, 3) := by decide +kernel
theorem dX9_second_27 : decode cX9_second 27 = .ok (.invokevirtual 219, 3) := by decide +kernel
theorem dX9_second_30 : decode cX9_second 30 = .ok (.aload_n 0, 1) := by decide +kernel
theorem dX9_second_31 : decode cX9_second 31 = .ok (.getfield 41, 3) := by decide +kernel
theorem dX9_second_34 : decode cX9_second 34 = .ok (.aload_n 0, 1) := by decide +kernel
theorem dX9_second_35 : decode cX9_second 35 = .ok (.getfield 48, 3) := by decide +kernel
theorem dX9_second_38 : decode cX9_second 38 = .ok (.getfield 240, 3) := by decide +kernel
theorem dX9_second_41 : decode cX9_second 41 = .ok (.invokevirtual 243, 3) := by decide +kernel
theorem dX9_second_44 : decode cX9_second 44 = .ok (.aload_n 0, 1) := by decide +kernel
theorem dX9_second_45 : decode cX9_second 45 = .ok (.getfield 48, 3) := by decide +kernel
theorem dX9_second_48 : decode cX9_second 48 = .ok (.iconst 1, 1) := by decide +kernel
theorem dX9_second_49 : decode cX9_second 49 = .ok (.putfield 247, 3) := by decide +kernel
theorem dX9_second_52 : decode cX9_second 52 = .ok (.aload_n 0, 1) := by decide +kernel
theorem dX9_second_53 : decode cX9_second 53 = .ok (.getfield 48, 3) := by decide +kernel
theorem dX9_second_56 : decode cX9_second 56 = .ok (.invokevirtual 222, 3) := by decide +kernel
theorem dX9_second_59 : decode cX9_second 59 = .ok (.ifCond .eq 13, 3) := by decide +kernel
theorem dX9_second_62 : decode cX9_second 62 = .ok (.aload_n 0, 1) := by decide +kernel
theorem dX9_second_63 : decode cX9_second 63 = .ok (.getfield 48, 3) := by decide +kernel
theorem dX9_second_66 : decode cX9_second 66 = .ok (.getfield 234, 3) := by decide +kernel
theorem dX9_second_69 : decode cX9_second 69 = .ok (.goto 5, 3) := by decide +kernel
theorem dX9_second_72 : decode cX9_second 72 = .ok (.bipush (-7), 2) := by decide +kernel
theorem dX9_second_74 : decode cX9_second 74 = .ok (.ireturn, 1) := by decide +kernel
set_option maxRecDepth 20000 in
theorem ggX9_with_X2_isLive : GoodIn wsX9_with wsX2_isLive := goodIn_r _ [7, 8, 9, 10, 11, 6, 12, 13, 14, 15, 16, 159, 160, 161, 162, 163, 164, 165, 166, 167, 168, 169] (by decide +kernel) (by decide +kernel)
set_option maxRecDepth 20000 in
theorem gX9_with_X2_isLive : GoodIn wsX9_with (wsV RX9 183 RX2 yX2_isLive wsX2_isLive) := goodIn_app (goodIn_of _ (by decide +kernel)) ggX9_with_X2_isLive
set_option maxRecDepth 20000 in
theorem ggX9_with_X9_isLarge : GoodIn wsX9_with wsX9_isLarge := goodIn_r _ [20, 1, 21, 22, 23, 6, 24, 8, 25, 26, 27, 28, 29, 30, 31, 139, 140, 141, 142, 143, 144, 145, 146, 147, 148, 159, 160, 161, 162, 163, 164, 165, 166, 167, 168, 169] (by decide +kernel) (by decide +kernel)
set_option maxRecDepth 20000 in
theorem gX9_with_X9_isLarge : GoodIn wsX9_with (wsV RX9 215 RX9 yX9_isLarge wsX9_isLarge) := goodIn_app (goodIn_of _ (by decide +kernel)) ggX9_with_X9_isLarge
set_option maxRecDepth 20000 in
theorem ggX9_with_X5_begin : GoodIn wsX9_with wsX5_begin := goodIn_r _ [36, 37, 38, 39, 40, 41, 42, 43, 44, 45, 46, 47, 48, 49, 50, 51, 6, 52, 53, 13, 54, 55, 56, 57, 58, 59, 60, 61, 62, 63, 64, 65, 66, 67, 68, 69, 70, 71, 72, 73, 74, 75, 76, 77, 78, 79, 80, 81, 82, 83, 84, 85, 86, 87, 88, 89, 90, 91, 92, 93, 94, 95, 96, 97, 98, 99, 100, 4, 5, 7, 8, 9, 10, 11, 12, 14, 15, 16, 101, 102, 149, 150, 151, 152, 153, 154, 155, 156, 157, 158, 159, 160, 161, 162, 163, 164, 165, 166, 167, 168, 169, 170, 171, 172, 173, 174, 175, 176] (by decide +kernel) (by decide +kernel)
set_option maxRecDepth 20000 in
theorem gX9_with_X5_begin : GoodIn wsX9_with (wsV RX9 219 RX5 yX5_begin wsX5_begin) := goodIn_app (goodIn_of _ (by decide +kernel)) ggX9_with_X5_begin
set_option maxRecDepth 20000 in
theorem ggX9_with_X5_tie : GoodIn wsX9_with wsX5_tie := goodIn_r _ [106] (by decide +kernel) (by decide +kernel)
set_option maxRecDepth 20000 in
theorem gX9_with_X5_tie : GoodIn wsX9_with (wsV RX9 257 RX5 yX5_tie wsX5_tie) := goodIn_app (goodIn_of _ (by decide +kernel)) ggX9_with_X5_tie
set_option maxRecDepth 20000 in
theorem ggX9_with_X5_run : GoodIn wsX9_with wsX5_run := goodIn_r _ [110, 47, 111, 48, 46, 45, 112, 113, 114, 35, 115, 37, 116, 117, 118, 119, 120, 121, 122, 123, 124, 43, 44, 125, 39, 40, 41, 42, 14, 15, 16, 126, 127, 128, 129, 38, 130, 131, 132, 133, 134, 135, 136, 137, 138, 149, 150, 151, 152, 153, 154, 155, 156, 157, 158, 159, 160, 161, 162, 163, 164, 165, 166, 167, 168, 169] (by decide +kernel) (by decide +kernel)
set_option maxRecDepth 20000 in
theorem gX9_with_X5_run : GoodIn wsX9_with (wsV RX9 222 RX5 yX5_run wsX5_run) := goodIn_app (goodIn_of _ (by decide +kernel)) ggX9_with_X5_run
theorem dX9_with_0 : decode cX9_with 0 = .ok (.aload_n 0, 1) := by decide +kernel
theorem dX9_with_1 : decode cX9_with 1 = .ok (.getfield 32, 3) := by decide +kernel
theorem dX9_with_4 : decode cX9_with 4 = .ok (.iload_n 1, 1) := by decide +kernel
theorem dX9_with_5 : decode cX9_with 5 = .ok (.invokevirtual 183, 3) := by decide +kernel
theorem dX9_with_8 : decode cX9_with 8 = .ok (.ifCond .eq 19, 3) := by decide +kernel
theorem dX9_with_11 : decode cX9_with 11 = .ok (.aload_n 0, 1) := by decide +kernel
theorem dX9_with_12 : decode cX9_with 12 = .ok (.getfield 32, 3) := by decide +kernel
theorem dX9_with_15 : decode cX9_with 15 = .ok (.iload_n 2, 1) := by decide +kernel
theorem dX9_with_16 : decode cX9_with 16 = .ok (.invokevirtual 183, 3) := by decide +kernel
theorem dX9_with_19 : decode cX9_with 19 = .ok (.ifCond .eq 8, 3) := by decide +kernel
theorem dX9_with_22 : decode cX9_with 22 = .ok (.iload_n 1, 1) := by decide +kernel
theorem dX9_with_23 : decode cX9_with 23 = .ok (.iload_n 2, 1) := by decide +kernel
theorem dX9_with_24 : decode cX9_with 24 = .ok (.if_icmp .ne 5, 3) := by decide +kernel
theorem dX9_with_27 : decode cX9_with 27 = .ok (.iconst (-1), 1) := by decide +kernel
theorem dX9_with_28 : decode cX9_with 28 = .ok (.ireturn, 1) := by decide +kernel
theorem dX9_with_29 : decode cX9_with 29 = .ok (.aload_n 0, 1) := by decide +kernel
theorem dX9_with_30 : decode cX9_with 30 = .ok (.invokevirtual 215, 3) := by decide +kernel
theorem dX9_with_33 : decode cX9_with 33 = .ok (.ifCond .eq 6, 3) := by decide +kernel
theorem dX9_with_36 : decode cX9_with 36 = .ok (.bipush (-8), 2) := by decide +kernel
theorem dX9_with_38 : decode cX9_with 38 = .ok (.ireturn, 1) := by decide +kernel
theorem dX9_with_39 : decode cX9_with 39 = .ok (.aload_n 0, 1) := by decide +kernel
theorem dX9_with_40 : decode cX9_with 40 = .ok (.getfield 48, 3) := by decide +kernel
theorem dX9_with_43 : decode cX9_with 43 = .ok (.invokevirtual 219, 3) := by decide +kernel
theorem dX9_with_46 : decode cX9_with 46 = .ok (.aload_n 0, 1) := by decide +kernel
theorem dX9_with_47 : decode cX9_with 47 = .ok (.getfield 48, 3) := by decide +kernel
theorem dX9_with_50 : decode cX9_with 50 = .ok (.iload_n 3, 1) := by decide +kernel
theorem dX9_with_51 : decode cX9_with 51 = .ok (.ifCond .eq 13, 3) := by decide +kernel
theorem dX9_with_54 : decode cX9_with 54 = .ok (.aload_n 0, 1) := by decide +kernel
theorem dX9_with_55 : decode cX9_with 55 = .ok (.getfield 48, 3) := by decide +kernel
theorem dX9_with_58 : decode cX9_with 58 = .ok (.getfield 251, 3) := by decide +kernel
theorem dX9_with_61 : decode cX9_with 61 = .ok (.goto 10, 3) := by decide +kernel
theorem dX9_with_64 : decode cX9_with 64 = .ok (.aload_n 0, 1) := by decide +kernel
theorem dX9_with_65 : decode cX9_with 65 = .ok (.getfield 48, 3) := by decide +kernel
theorem dX9_with_68 : decode cX9_with 68 = .ok (.getfield 254, 3) := by decide +kernel
theorem dX9_with_71 : decode cX9_with 71 = .ok (.iload_n 1, 1) := by decide +kernel
theorem dX9_with_72 : decode cX9_with 72 = .ok (.iload_n 2, 1) := by decide +kernel
theorem dX9_with_73 : decode cX9_with 73 = .ok (.invokevirtual 257, 3) := by decide +kernel
theorem dX9_with_76 : decode cX9_with 76 = .ok (.aload_n 0, 1) := by decide +kernel
theorem dX9_with_77 : decode cX9_with 77 = .ok (.getfield 48, 3) := by decide +kernel
theorem dX9_with_80 : decode cX9_with 80 = .ok (.invokevirtual 222, 3) := by decide +kernel
theorem dX9_with_83 : decode cX9_with 83 = .ok (.ifCond .eq 13, 3) := by decide +kernel
theorem dX9_with_86 : decode cX9_with 86 = .ok (.aload_n 0, 1) := by decide +kernel
theorem dX9_with_87 : decode cX9_with 87 = .ok (.getfield 48, 3) := by decide +kernel
theorem dX9_with_90 : decode cX9_with 90 = .ok (.getfield 234, 3) := by decide +kernel
theorem dX9_with_93 : decode cX9_with 93 = .ok (.goto 5, 3) := by decide +kernel
theorem dX9_with_96 : decode cX9_with 96 = .ok (.bipush (-7), 2) := by decide +kernel
theorem dX9_with_98 : decode cX9_with 98 = .ok (.ireturn, 1) := by decide +kernel
set_option maxRecDepth 20000 in
theorem ggX9_put_X2_isLamp : GoodIn wsX9_put wsX2_isLamp := goodIn_r _ [7, 8, 39, 40, 41, 42, 43, 44, 45, 46, 47, 48, 49] (by decide +kernel) (by decide +kernel)
set_option maxRecDepth 20000 in
theorem gX9_put_X2_isLamp : GoodIn wsX9_put (wsV RX9 172 RX2 yX2_isLamp wsX2_isLamp) := goodIn_app (goodIn_of _ (by decide +kernel)) ggX9_put_X2_isLamp
set_option maxRecDepth 20000 in
theorem ggX9_put_X2_isLive : GoodIn wsX9_put wsX2_isLive := goodIn_r _ [12, 13, 14, 4, 5, 6, 7, 8, 15, 16, 17, 39, 40, 41, 42, 43, 44, 45, 46, 47, 48, 49] (by decide +kernel) (by decide +kernel)
set_option maxRecDepth 20000 in
theorem gX9_put_X2_isLive : GoodIn wsX9_put (wsV RX9 183 RX2 yX2_isLive wsX2_isLive) := goodIn_app (goodIn_of _ (by decide +kernel)) ggX9_put_X2_isLive
set_option maxRecDepth 20000 in
theorem ggX9_put_X6_holds : GoodIn wsX9_put wsX6_holds := goodIn_r _ [22, 23, 24, 50, 51, 52] (by decide +kernel) (by decide +kernel)
set_option maxRecDepth 20000 in
theorem gX9_put_X6_holds : GoodIn wsX9_put (wsV RX9 261 RX6 yX6_holds wsX6_holds) := goodIn_app (goodIn_of _ (by decide +kernel)) ggX9_put_X6_holds
set_option maxRecDepth 20000 in
theorem ggX9_put_X6_append : GoodIn wsX9_put wsX6_append := goodIn_r _ [28, 23, 24, 50, 51, 52] (by decide +kernel) (by decide +kernel)
set_option maxRecDepth 20000 in
theorem gX9_put_X6_append : GoodIn wsX9_put (wsV RX9 264 RX6 yX6_append wsX6_append) := goodIn_app (goodIn_of _ (by decide +kernel)) ggX9_put_X6_append
theorem dX9_put_0 : decode cX9_put 0 = .ok (.aload_n 0, 1) := by decide +kernel
theorem dX9_put_1 : decode cX9_put 1 = .ok (.getfield 32, 3) := by decide +kernel
theorem dX9_put_4 : decode cX9_put 4 = .ok (.iload_n 1, 1) := by decide +kernel
theorem dX9_put_5 : decode cX9_put 5 = .ok (.invokevirtual 172, 3) := by decide +kernel
theorem dX9_put_8 : decode cX9_put 8 = .ok (.ifCond .ne 5, 3) := by decide +kernel
theorem dX9_put_11 : decode cX9_put 11 = .ok (.iconst (-1), 1) := by decide +kernel
theorem dX9_put_12 : decode cX9_put 12 = .ok (.ireturn, 1) := by decide +kernel
theorem dX9_put_13 : decode cX9_put 13 = .ok (.aload_n 0, 1) := by decide +kernel
theorem dX9_put_14 : decode cX9_put 14 = .ok (.getfield 32, 3) := by decide +kernel
theorem dX9_put_17 : decode cX9_put 17 = .ok (.iload_n 1, 1) := by decide +kernel
theorem dX9_put_18 : decode cX9_put 18 = .ok (.invokevirtual 183, 3) := by decide +kernel
theorem dX9_put_21 : decode cX9_put 21 = .ok (.ifCond .eq 14, 3) := by decide +kernel
theorem dX9_put_24 : decode cX9_put 24 = .ok (.aload_n 0, 1) := by decide +kernel
theorem dX9_put_25 : decode cX9_put 25 = .ok (.getfield 41, 3) := by decide +kernel
theorem dX9_put_28 : decode cX9_put 28 = .ok (.iload_n 1, 1) := by decide +kernel
theorem dX9_put_29 : decode cX9_put 29 = .ok (.invokevirtual 261, 3) := by decide +kernel
theorem dX9_put_32 : decode cX9_put 32 = .ok (.ifCond .eq 6, 3) := by decide +kernel
theorem dX9_put_35 : decode cX9_put 35 = .ok (.bipush (-4), 2) := by decide +kernel
theorem dX9_put_37 : decode cX9_put 37 = .ok (.ireturn, 1) := by decide +kernel
theorem dX9_put_38 : decode cX9_put 38 = .ok (.aload_n 0, 1) := by decide +kernel
theorem dX9_put_39 : decode cX9_put 39 = .ok (.getfield 41, 3) := by decide +kernel
theorem dX9_put_42 : decode cX9_put 42 = .ok (.iload_n 1, 1) := by decide +kernel
theorem dX9_put_43 : decode cX9_put 43 = .ok (.invokevirtual 264, 3) := by decide +kernel
theorem dX9_put_46 : decode cX9_put 46 = .ok (.ireturn, 1) := by decide +kernel
set_option maxRecDepth 20000 in
theorem ggX9_clear_X6_empty : GoodIn wsX9_clear wsX6_empty := goodIn_r _ [6, 7, 18, 19, 20] (by decide +kernel) (by decide +kernel)
set_option maxRecDepth 20000 in
theorem gX9_clear_X6_empty : GoodIn wsX9_clear (wsV RX9 267 RX6 yX6_empty wsX6_empty) := goodIn_app (goodIn_of _ (by decide +kernel)) ggX9_clear_X6_empty
theorem dX9_clear_0 : decode cX9_clear 0 = .ok (.aload_n 0, 1) := by decide +kernel
theorem dX9_clear_1 : decode cX9_clear 1 = .ok (.getfield 41, 3) := by decide +kernel
theorem dX9_clear_4 : decode cX9_clear 4 = .ok (.invokevirtual 267, 3) := by decide +kernel
theorem dX9_clear_7 : decode cX9_clear 7 = .ok (.ireturn, 1) := by decide +kernel
theorem dX9_at_0 : decode cX9_at 0 = .ok (.iload_n 1, 1) := by decide +kernel
theorem dX9_at_1 : decode cX9_at 1 = .ok (.ifCond .lt 26, 3) := by decide +kernel
theorem dX9_at_4 : decode cX9_at 4 = .ok (.iload_n 1, 1) := by decide +kernel
theorem dX9_at_5 : decode cX9_at 5 = .ok (.aload_n 0, 1) := by decide +kernel
theorem dX9_at_6 : decode cX9_at 6 = .ok (.getfield 41, 3) := by decide +kernel
theorem dX9_at_9 : decode cX9_at 9 = .ok (.getfield 211, 3) := by decide +kernel
theorem dX9_at_12 : decode cX9_at 12 = .ok (.if_icmp .ge 15, 3) := by decide +kernel
theorem dX9_at_15 : decode cX9_at 15 = .ok (.aload_n 0, 1) := by decide +kernel
theorem dX9_at_16 : decode cX9_at 16 = .ok (.getfield 41, 3) := by decide +kernel
theorem dX9_at_19 : decode cX9_at 19 = .ok (.getfield 270, 3) := by decide +kernel
theorem dX9_at_22 : decode cX9_at 22 = .ok (.iload_n 1, 1) := by decide +kernel
theorem dX9_at_23 : decode cX9_at 23 = .ok (.iaload, 1) := by decide +kernel
theorem dX9_at_24 : decode cX9_at 24 = .ok (.goto 4, 3) := by decide +kernel
theorem dX9_at_27 : decode cX9_at 27 = .ok (.iconst (-1), 1) := by decide +kernel
theorem dX9_at_28 : decode cX9_at 28 = .ok (.ireturn, 1) := by decide +kernel
set_option maxRecDepth 20000 in
theorem ggX9_length_X6_isWhole : GoodIn wsX9_length wsX6_isWhole := goodIn_r _ [7, 8, 9, 10, 11, 12, 13, 14, 15, 16, 17, 18, 19, 20, 21, 22, 105, 106, 107, 108, 109, 110, 111, 112, 113, 114, 115, 116, 117, 118] (by decide +kernel) (by decide +kernel)
set_option maxRecDepth 20000 in
theorem gX9_length_X6_isWhole : GoodIn wsX9_length (wsV RX9 237 RX6 yX6_isWhole wsX6_isWhole) := goodIn_app (goodIn_of _ (by decide +kernel)) ggX9_length_X6_isWhole
set_option maxRecDepth 20000 in
theorem ggX9_length_X6_measure : GoodIn wsX9_length wsX6_measure := goodIn_r _ [26, 9, 8, 27, 28, 29, 30, 13, 31, 32, 33, 34, 35, 36, 37, 38, 39, 40, 41, 42, 43, 44, 45, 46, 47, 48, 49, 50, 51, 52, 53, 54, 55, 56, 57, 58, 59, 60, 61, 62, 63, 64, 65, 66, 67, 68, 69, 70, 71, 72, 73, 74, 75, 76, 77, 78, 79, 80, 81, 82, 83, 15, 84, 85, 86, 87, 88, 89, 90, 91, 92, 93, 6, 94, 105, 106, 107, 108, 109, 110, 111, 112, 113, 114, 115, 116, 117, 118, 119, 120, 121, 122, 123, 124, 125] (by decide +kernel) (by decide +kernel)
set_option maxRecDepth 20000 in
theorem gX9_length_X6_measure : GoodIn wsX9_length (wsV RX9 273 RX6 yX6_measure wsX6_measure) := goodIn_app (goodIn_of _ (by decide +kernel)) ggX9_length_X6_measure
theorem dX9_length_0 : decode cX9_length 0 = .ok (.aload_n 0, 1) := by decide +kernel
theorem dX9_length_1 : decode cX9_length 1 = .ok (.getfield 41, 3) := by decide +kernel
theorem dX9_length_4 : decode cX9_length 4 = .ok (.invokevirtual 237, 3) := by decide +kernel
theorem dX9_length_7 : decode cX9_length 7 = .ok (.ifCond .ne 6, 3) := by decide +kernel
theorem dX9_length_10 : decode cX9_length 10 = .ok (.bipush (-4), 2) := by decide +kernel
theorem dX9_length_12 : decode cX9_length 12 = .ok (.ireturn, 1) := by decide +kernel
theorem dX9_length_13 : decode cX9_length 13 = .ok (.aload_n 0, 1) := by decide +kernel
theorem dX9_length_14 : decode cX9_length 14 = .ok (.getfield 41, 3) := by decide +kernel
theorem dX9_length_17 : decode cX9_length 17 = .ok (.invokevirtual 273, 3) := by decide +kernel
theorem dX9_length_20 : decode cX9_length 20 = .ok (.istore_n 1, 1) := by decide +kernel
theorem dX9_length_21 : decode cX9_length 21 = .ok (.iload_n 1, 1) := by decide +kernel
theorem dX9_length_22 : decode cX9_length 22 = .ok (.ldc 165, 2) := by decide +kernel
theorem dX9_length_24 : decode cX9_length 24 = .ok (.if_icmp .lt 8, 3) := by decide +kernel
theorem dX9_length_27 : decode cX9_length 27 = .ok (.bipush (-10), 2) := by decide +kernel
theorem dX9_length_29 : decode cX9_length 29 = .ok (.goto 4, 3) := by decide +kernel
theorem dX9_length_32 : decode cX9_length 32 = .ok (.iload_n 1, 1) := by decide +kernel
theorem dX9_length_33 : decode cX9_length 33 = .ok (.ireturn, 1) := by decide +kernel
set_option maxRecDepth 20000 in
theorem ggX9_keeps_X6_isWhole : GoodIn wsX9_keeps wsX6_isWhole := goodIn_r _ [6, 7, 8, 9, 10, 11, 12, 13, 14, 15, 16, 17, 18, 19, 20, 21, 108, 109, 110, 111, 112, 113, 114, 115, 116, 117, 118, 119, 120, 121] (by decide +kernel) (by decide +kernel)
set_option maxRecDepth 20000 in
theorem gX9_keeps_X6_isWhole : GoodIn wsX9_keeps (wsV RX9 237 RX6 yX6_isWhole wsX6_isWhole) := goodIn_app (goodIn_of _ (by decide +kernel)) ggX9_keeps_X6_isWhole
set_option maxRecDepth 20000 in
theorem ggX9_keeps_X6_keepsTwins : GoodIn wsX9_keeps wsX6_keepsTwins := goodIn_r _ [25, 8, 7, 26, 27, 28, 29, 12, 30, 31, 32, 33, 34, 35, 36, 37, 38, 39, 40, 41, 42, 43, 44, 45, 46, 47, 48, 49, 50, 51, 52, 53, 54, 55, 56, 57, 58, 59, 60, 61, 62, 63, 64, 65, 66, 67, 68, 69, 70, 71, 72, 73, 74, 75, 76, 77, 78, 79, 80, 81, 82, 14, 83, 84, 85, 86, 87, 88, 89, 90, 91, 92, 5, 93, 94, 95, 96, 97, 108, 109, 110, 111, 112, 113, 114, 115, 116, 117, 118, 119, 120, 121, 122, 123, 124, 125, 126, 127, 128] (by decide +kernel) (by decide +kernel)
set_option maxRecDepth 20000 in
theorem gX9_keeps_X6_keepsTwins : GoodIn wsX9_keeps (wsV RX9 276 RX6 yX6_keepsTwins wsX6_keepsTwins) := goodIn_app (goodIn_of _ (by decide +kernel)) ggX9_keeps_X6_keepsTwins
theorem dX9_keeps_0 : decode cX9_keeps 0 = .ok (.aload_n 0, 1) := by decide +kernel
theorem dX9_keeps_1 : decode cX9_keeps 1 = .ok (.getfield 41, 3) := by decide +kernel
theorem dX9_keeps_4 : decode cX9_keeps 4 = .ok (.invokevirtual 237, 3) := by decide +kernel
theorem dX9_keeps_7 : decode cX9_keeps 7 = .ok (.ifCond .ne 6, 3) := by decide +kernel
theorem dX9_keeps_10 : decode cX9_keeps 10 = .ok (.bipush (-4), 2) := by decide +kernel
theorem dX9_keeps_12 : decode cX9_keeps 12 = .ok (.ireturn, 1) := by decide +kernel
theorem dX9_keeps_13 : decode cX9_keeps 13 = .ok (.aload_n 0, 1) := by decide +kernel
theorem dX9_keeps_14 : decode cX9_keeps 14 = .ok (.getfield 41, 3) := by decide +kernel
theorem dX9_keeps_17 : decode cX9_keeps 17 = .ok (.invokevirtual 276, 3) := by decide +kernel
theorem dX9_keeps_20 : decode cX9_keeps 20 = .ok (.ifCond .eq 7, 3) := by decide +kernel
theorem dX9_keeps_23 : decode cX9_keeps 23 = .ok (.iconst 1, 1) := by decide +kernel
theorem dX9_keeps_24 : decode cX9_keeps 24 = .ok (.goto 4, 3) := by decide +kernel
theorem dX9_keeps_27 : decode cX9_keeps 27 = .ok (.iconst 0, 1) := by decide +kernel
theorem dX9_keeps_28 : decode cX9_keeps 28 = .ok (.ireturn, 1) := by decide +kernel
set_option maxRecDepth 20000 in
theorem ggX9_turn_X6_isWhole : GoodIn wsX9_turn wsX6_isWhole := goodIn_r _ [6, 7, 8, 9, 10, 11, 12, 13, 14, 15, 16, 17, 18, 19, 20, 21, 37, 38, 39, 40, 41, 42, 43, 44, 45, 46, 47, 48, 49, 50] (by decide +kernel) (by decide +kernel)
set_option maxRecDepth 20000 in
theorem gX9_turn_X6_isWhole : GoodIn wsX9_turn (wsV RX9 237 RX6 yX6_isWhole wsX6_isWhole) := goodIn_app (goodIn_of _ (by decide +kernel)) ggX9_turn_X6_isWhole
set_option maxRecDepth 20000 in
theorem ggX9_turn_X6_reverse : GoodIn wsX9_turn wsX6_reverse := goodIn_r _ [25, 26, 37, 38, 39] (by decide +kernel) (by decide +kernel)
set_option maxRecDepth 20000 in
theorem gX9_turn_X6_reverse : GoodIn wsX9_turn (wsV RX9 279 RX6 yX6_reverse wsX6_reverse) := goodIn_app (goodIn_of _ (by decide +kernel)) ggX9_turn_X6_reverse
theorem dX9_turn_0 : decode cX9_turn 0 = .ok (.aload_n 0, 1) := by decide +kernel
theorem dX9_turn_1 : decode cX9_turn 1 = .ok (.getfield 41, 3) := by decide +kernel
theorem dX9_turn_4 : decode cX9_turn 4 = .ok (.invokevirtual 237, 3) := by decide +kernel
theorem dX9_turn_7 : decode cX9_turn 7 = .ok (.ifCond .ne 6, 3) := by decide +kernel
theorem dX9_turn_10 : decode cX9_turn 10 = .ok (.bipush (-4), 2) := by decide +kernel
theorem dX9_turn_12 : decode cX9_turn 12 = .ok (.ireturn, 1) := by decide +kernel
theorem dX9_turn_13 : decode cX9_turn 13 = .ok (.iload_n 1, 1) := by decide +kernel
theorem dX9_turn_14 : decode cX9_turn 14 = .ok (.ifCond .lt 19, 3) := by decide +kernel
theorem dX9_turn_17 : decode cX9_turn 17 = .ok (.iload_n 2, 1) := by decide +kernel
theorem dX9_turn_18 : decode cX9_turn 18 = .ok (.iload_n 1, 1) := by decide +kernel
theorem dX9_turn_19 : decode cX9_turn 19 = .ok (.if_icmp .le 14, 3) := by decide +kernel
theorem dX9_turn_22 : decode cX9_turn 22 = .ok (.iload_n 2, 1) := by decide +kernel
theorem dX9_turn_23 : decode cX9_turn 23 = .ok (.aload_n 0, 1) := by decide +kernel
theorem dX9_turn_24 : decode cX9_turn 24 = .ok (.getfield 41, 3) := by decide +kernel
theorem dX9_turn_27 : decode cX9_turn 27 = .ok (.getfield 211, 3) := by decide +kernel
theorem dX9_turn_30 : decode cX9_turn 30 = .ok (.if_icmp .lt 5, 3) := by decide +kernel
theorem dX9_turn_33 : decode cX9_turn 33 = .ok (.iconst (-1), 1) := by decide +kernel
theorem dX9_turn_34 : decode cX9_turn 34 = .ok (.ireturn, 1) := by decide +kernel
theorem dX9_turn_35 : decode cX9_turn 35 = .ok (.aload_n 0, 1) := by decide +kernel
theorem dX9_turn_36 : decode cX9_turn 36 = .ok (.getfield 41, 3) := by decide +kernel
theorem dX9_turn_39 : decode cX9_turn 39 = .ok (.iload_n 1, 1) := by decide +kernel
theorem dX9_turn_40 : decode cX9_turn 40 = .ok (.iconst 1, 1) := by decide +kernel
theorem dX9_turn_41 : decode cX9_turn 41 = .ok (.iadd, 1) := by decide +kernel
theorem dX9_turn_42 : decode cX9_turn 42 = .ok (.iload_n 2, 1) := by decide +kernel
theorem dX9_turn_43 : decode cX9_turn 43 = .ok (.invokevirtual 279, 3) := by decide +kernel
theorem dX9_turn_46 : decode cX9_turn 46 = .ok (.iconst 1, 1) := by decide +kernel
theorem dX9_turn_47 : decode cX9_turn 47 = .ok (.ireturn, 1) := by decide +kernel
set_option maxRecDepth 20000 in
theorem ggX9_better_X6_isWhole : GoodIn wsX9_better wsX6_isWhole := goodIn_r _ [7, 8, 9, 10, 11, 12, 13, 14, 15, 16, 17, 18, 19, 20, 21, 22, 125, 126, 127, 128, 129, 130, 131, 132, 133, 134, 135, 136, 137, 138] (by decide +kernel) (by decide +kernel)
set_option maxRecDepth 20000 in
theorem gX9_better_X6_isWhole : GoodIn wsX9_better (wsV RX9 237 RX6 yX6_isWhole wsX6_isWhole) := goodIn_app (goodIn_of _ (by decide +kernel)) ggX9_better_X6_isWhole
set_option maxRecDepth 20000 in
theorem ggX9_better_X6_measure : GoodIn wsX9_better wsX6_measure := goodIn_r _ [26, 9, 8, 27, 28, 29, 30, 13, 31, 32, 33, 34, 35, 36, 37, 38, 39, 40, 41, 42, 43, 44, 45, 46, 47, 48, 49, 50, 51, 52, 53, 54, 55, 56, 57, 58, 59, 60, 61, 62, 63, 64, 65, 66, 67, 68, 69, 70, 71, 72, 73, 74, 75, 76, 77, 78, 79, 80, 81, 82, 83, 15, 84, 85, 86, 87, 88, 89, 90, 91, 92, 93, 6, 94, 125, 126, 127, 128, 129, 130, 131, 132, 133, 134, 135, 136, 137, 138, 139, 140, 141, 142, 143, 144, 145] (by decide +kernel) (by decide +kernel)
set_option maxRecDepth 20000 in
theorem gX9_better_X6_measure : GoodIn wsX9_better (wsV RX9 273 RX6 yX6_measure wsX6_measure) := goodIn_app (goodIn_of _ (by decide +kernel)) ggX9_better_X6_measure
set_option maxRecDepth 20000 in
theorem ggX9_better_X6_turnFirstShorter : GoodIn wsX9_better wsX6_turnFirstShorter := goodIn_r _ [98, 8, 99, 100, 101, 6, 102, 9, 27, 28, 29, 30, 13, 31, 32, 33, 34, 35, 36, 37, 38, 39, 40, 41, 42, 43, 44, 45, 46, 47, 48, 49, 50, 51, 52, 53, 54, 55, 56, 57, 58, 59, 60, 61, 62, 63, 64, 65, 66, 67, 68, 69, 70, 71, 72, 73, 74, 75, 76, 77, 78, 79, 80, 81, 82, 83, 15, 84, 85, 86, 87, 88, 89, 90, 103, 104, 105, 106, 91, 92, 93, 94, 107, 108, 109, 110, 111, 112, 113, 114, 125, 126, 127, 128, 129, 130, 131, 132, 133, 134, 135, 136, 137, 138, 139, 140, 141, 142, 143, 144, 145] (by decide +kernel) (by decide +kernel)
set_option maxRecDepth 20000 in
theorem gX9_better_X6_turnFirstShorter : GoodIn wsX9_better (wsV RX9 283 RX6 yX6_turnFirstShorter wsX6_turnFirstShorter) := goodIn_app (goodIn_of _ (by decide +kernel)) ggX9_better_X6_turnFirstShorter
theorem dX9_better_0 : decode cX9_better 0 = .ok (.aload_n 0, 1) := by decide +kernel
theorem dX9_better_1 : decode cX9_better 1 = .ok (.getfield 41, 3) := by decide +kernel
theorem dX9_better_4 : decode cX9_better 4 = .ok (.invokevirtual 237, 3) := by decide +kernel
theorem dX9_better_7 : decode cX9_better 7 = .ok (.ifCond .ne 6, 3) := by decide +kernel
theorem dX9_better_10 : decode cX9_better 10 = .ok (.bipush (-4), 2) := by decide +kernel
theorem dX9_better_12 : decode cX9_better 12 = .ok (.ireturn, 1) := by decide +kernel
theorem dX9_better_13 : decode cX9_better 13 = .ok (.aload_n 0, 1) := by decide +kernel
theorem dX9_better_14 : decode cX9_better 14 = .ok (.getfield 41, 3) := by decide +kernel
theorem dX9_better_17 : decode cX9_better 17 = .ok (.invokevirtual 273, 3) := by decide +kernel
theorem dX9_better_20 : decode cX9_better 20 = .ok (.ldc 165, 2) := by decide +kernel
theorem dX9_better_22 : decode cX9_better 22 = .ok (.if_icmp .lt 6, 3) := by decide +kernel
theorem dX9_better_25 : decode cX9_better 25 = .ok (.bipush (-10), 2) := by decide +kernel
theorem dX9_better_27 : decode cX9_better 27 = .ok (.ireturn, 1) := by decide +kernel
theorem dX9_better_28 : decode cX9_better 28 = .ok (.iconst 0, 1) := by decide +kernel
theorem dX9_better_29 : decode cX9_better 29 = .ok (.istore_n 1, 1) := by decide +kernel
theorem dX9_better_30 : decode cX9_better 30 = .ok (.iload_n 1, 1) := by decide +kernel
theorem dX9_better_31 : decode cX9_better 31 = .ok (.bipush 100, 2) := by decide +kernel
theorem dX9_better_33 : decode cX9_better 33 = .ok (.if_icmp .ge 19, 3) := by decide +kernel
theorem dX9_better_36 : decode cX9_better 36 = .ok (.aload_n 0, 1) := by decide +kernel
theorem dX9_better_37 : decode cX9_better 37 = .ok (.getfield 41, 3) := by decide +kernel
theorem dX9_better_40 : decode cX9_better 40 = .ok (.invokevirtual 283, 3) := by decide +kernel
theorem dX9_better_43 : decode cX9_better 43 = .ok (.ifCond .eq 9, 3) := by decide +kernel
theorem dX9_better_46 : decode cX9_better 46 = .ok (.iinc 1 1, 3) := by decide +kernel
theorem dX9_better_49 : decode cX9_better 49 = .ok (.goto (-19), 3) := by decide +kernel
theorem dX9_better_52 : decode cX9_better 52 = .ok (.iload_n 1, 1) := by decide +kernel
theorem dX9_better_53 : decode cX9_better 53 = .ok (.ireturn, 1) := by decide +kernel
set_option maxRecDepth 20000 in
theorem ggX9_price_X2_isLamp : GoodIn wsX9_price wsX2_isLamp := goodIn_r _ [8, 9, 20, 21, 22, 23, 24, 25, 26, 27, 28, 29, 30] (by decide +kernel) (by decide +kernel)
set_option maxRecDepth 20000 in
theorem gX9_price_X2_isLamp : GoodIn wsX9_price (wsV RX9 172 RX2 yX2_isLamp wsX2_isLamp) := goodIn_app (goodIn_of _ (by decide +kernel)) ggX9_price_X2_isLamp
theorem dX9_price_0 : decode cX9_price 0 = .ok (.aload_n 0, 1) := by decide +kernel
theorem dX9_price_1 : decode cX9_price 1 = .ok (.getfield 32, 3) := by decide +kernel
theorem dX9_price_4 : decode cX9_price 4 = .ok (.iload_n 1, 1) := by decide +kernel
theorem dX9_price_5 : decode cX9_price 5 = .ok (.invokevirtual 172, 3) := by decide +kernel
theorem dX9_price_8 : decode cX9_price 8 = .ok (.ifCond .eq 17, 3) := by decide +kernel
theorem dX9_price_11 : decode cX9_price 11 = .ok (.iload_n 2, 1) := by decide +kernel
theorem dX9_price_12 : decode cX9_price 12 = .ok (.ldc_w 286, 3) := by decide +kernel
theorem dX9_price_15 : decode cX9_price 15 = .ok (.if_icmp .lt 10, 3) := by decide +kernel
theorem dX9_price_18 : decode cX9_price 18 = .ok (.iload_n 2, 1) := by decide +kernel
theorem dX9_price_19 : decode cX9_price 19 = .ok (.ldc_w 287, 3) := by decide +kernel
theorem dX9_price_22 : decode cX9_price 22 = .ok (.if_icmp .le 5, 3) := by decide +kernel
theorem dX9_price_25 : decode cX9_price 25 = .ok (.iconst (-1), 1) := by decide +kernel
theorem dX9_price_26 : decode cX9_price 26 = .ok (.ireturn, 1) := by decide +kernel
theorem dX9_price_27 : decode cX9_price 27 = .ok (.aload_n 0, 1) := by decide +kernel
theorem dX9_price_28 : decode cX9_price 28 = .ok (.getfield 32, 3) := by decide +kernel
theorem dX9_price_31 : decode cX9_price 31 = .ok (.getfield 203, 3) := by decide +kernel
theorem dX9_price_34 : decode cX9_price 34 = .ok (.iload_n 1, 1) := by decide +kernel
theorem dX9_price_35 : decode cX9_price 35 = .ok (.iload_n 2, 1) := by decide +kernel
theorem dX9_price_36 : decode cX9_price 36 = .ok (.iastore, 1) := by decide +kernel
theorem dX9_price_37 : decode cX9_price 37 = .ok (.iconst 1, 1) := by decide +kernel
theorem dX9_price_38 : decode cX9_price 38 = .ok (.ireturn, 1) := by decide +kernel
set_option maxRecDepth 20000 in
theorem ggX9_climb_X9_isTooSmall : GoodIn wsX9_climb wsX9_isTooSmall := goodIn_r _ [7, 8, 9, 10, 11, 12, 13, 14, 15, 16, 17, 18, 19, 20, 21, 191, 192, 193, 194, 195, 196, 197, 198, 199, 200, 201, 202, 203, 204, 205, 206, 207, 208, 209, 210, 211] (by decide +kernel) (by decide +kernel)
set_option maxRecDepth 20000 in
theorem gX9_climb_X9_isTooSmall : GoodIn wsX9_climb (wsV RX9 288 RX9 yX9_isTooSmall wsX9_isTooSmall) := goodIn_app (goodIn_of _ (by decide +kernel)) ggX9_climb_X9_isTooSmall
set_option maxRecDepth 20000 in
theorem ggX9_climb_X9_growEmptyCase : GoodIn wsX9_climb wsX9_growEmptyCase := goodIn_r _ [25, 1, 26, 27, 28, 6, 29, 8, 30, 31, 32, 33, 12, 34, 35, 36, 37, 38, 39, 40, 41, 42, 43, 44, 45, 46, 47, 48, 49, 50, 51, 52, 53, 54, 55, 56, 57, 58, 59, 60, 61, 62, 63, 64, 65, 66, 67, 68, 69, 70, 71, 72, 73, 74, 75, 76, 77, 78, 79, 80, 81, 82, 83, 84, 85, 86, 14, 87, 88, 89, 90, 91, 92, 93, 94, 95, 96, 97, 98, 99, 100, 101, 102, 103, 104, 105, 106, 107, 108, 109, 110, 111, 112, 113, 114, 115, 116, 117, 118, 119, 120, 121, 122, 123, 124, 125, 126, 127, 128, 129, 130, 131, 132, 133, 134, 135, 136, 137, 138, 139, 140, 141, 10, 11, 13, 15, 16, 17, 18, 19, 20, 21, 142, 143, 144, 145, 146, 147, 148, 149, 150, 151, 152, 153, 154, 155, 156, 157, 158, 159, 160, 161, 162, 163, 164, 165, 166, 167, 168, 169, 170, 171, 172, 173, 174, 175, 176, 191, 192, 193, 194, 195, 196, 197, 198, 199, 200, 201, 202, 203, 204, 205, 206, 207, 208, 209, 210, 211, 212, 213, 214, 215, 216, 217, 218, 219, 220, 221, 222, 223, 224, 225, 226, 227, 228, 229, 230, 231, 232, 233] (by decide +kernel) (by decide +kernel)
set_option maxRecDepth 20000 in
theorem gX9_climb_X9_growEmptyCase : GoodIn wsX9_climb (wsV RX9 291 RX9 yX9_growEmptyCase wsX9_growEmptyCase) := goodIn_app (goodIn_of _ (by decide +kernel)) ggX9_climb_X9_growEmptyCase
set_option maxRecDepth 20000 in
theorem ggX9_climb_X8_sumOfCase : GoodIn wsX9_climb wsX8_sumOfCase := goodIn_r _ [180, 109, 130, 132, 181, 131, 182, 133, 134, 135, 12, 136, 36, 14, 91, 6, 92, 111, 84, 85, 86, 87, 88, 89, 90, 225, 226, 227, 228, 229, 230, 231, 232, 233, 201, 202, 203, 204, 205, 206, 207, 208, 209, 210, 211] (by decide +kernel) (by decide +kernel)
set_option maxRecDepth 20000 in
theorem gX9_climb_X8_sumOfCase : GoodIn wsX9_climb (wsV RX9 294 RX8 yX8_sumOfCase wsX8_sumOfCase) := goodIn_app (goodIn_of _ (by decide +kernel)) ggX9_climb_X8_sumOfCase
set_option maxRecDepth 20000 in
theorem ggX9_climb_X8_raisePrices : GoodIn wsX9_climb wsX8_raisePrices := goodIn_r _ [186, 109, 129, 172, 111, 84, 85, 12, 86, 14, 87, 88, 89, 90, 36, 91, 6, 92, 147, 148, 149, 150, 225, 226, 227, 228, 229, 230, 231, 232, 233, 201, 202, 203, 204, 205, 206, 207, 208, 209, 210, 211] (by decide +kernel) (by decide +kernel)
set_option maxRecDepth 20000 in
theorem gX9_climb_X8_raisePrices : GoodIn wsX9_climb (wsV RX9 300 RX8 yX8_raisePrices wsX8_raisePrices) := goodIn_app (goodIn_of _ (by decide +kernel)) ggX9_climb_X8_raisePrices
set_option maxRecDepth 20000 in
theorem ggX9_climb_X8_rankAnew : GoodIn wsX9_climb wsX8_rankAnew := goodIn_r _ [190, 108, 110, 142, 143, 144, 106, 145, 146, 147, 6, 148, 149, 150, 112, 113, 114, 115, 116, 109, 117, 118, 119, 120, 121, 122, 123, 124, 225, 226, 227, 228, 229, 230, 231, 232, 233, 201, 202, 203, 204, 205, 206, 207, 208, 209, 210, 211] (by decide +kernel) (by decide +kernel)
set_option maxRecDepth 20000 in
theorem gX9_climb_X8_rankAnew : GoodIn wsX9_climb (wsV RX9 303 RX8 yX8_rankAnew wsX8_rankAnew) := goodIn_app (goodIn_of _ (by decide +kernel)) ggX9_climb_X8_rankAnew
set_option maxRecDepth 20000 in
theorem ggX9_climb_X8_grow : GoodIn wsX9_climb wsX8_grow := goodIn_r _ [128, 129, 130, 131, 132, 109, 133, 134, 135, 12, 136, 36, 14, 91, 6, 92, 137, 138, 139, 106, 140, 108, 141, 10, 11, 13, 15, 16, 17, 18, 19, 20, 21, 142, 143, 144, 145, 110, 146, 147, 148, 149, 150, 151, 152, 153, 154, 155, 116, 156, 157, 158, 96, 159, 98, 160, 161, 162, 163, 99, 164, 165, 166, 167, 168, 169, 170, 171, 172, 173, 174, 175, 176, 225, 226, 227, 228, 229, 230, 231, 232, 233, 201, 202, 203, 204, 205, 206, 207, 208, 209, 210, 211, 219, 220, 221, 222, 223, 224] (by decide +kernel) (by decide +kernel)
set_option maxRecDepth 20000 in
theorem gX9_climb_X8_grow : GoodIn wsX9_climb (wsV RX9 306 RX8 yX8_grow wsX8_grow) := goodIn_app (goodIn_of _ (by decide +kernel)) ggX9_climb_X8_grow
theorem dX9_climb_0 : decode cX9_climb 0 = .ok (.iload_n 1, 1) := by decide +kernel
theorem dX9_climb_1 : decode cX9_climb 1 = .ok (.iconst 1, 1) := by decide +kernel
theorem dX9_climb_2 : decode cX9_climb 2 = .ok (.if_icmp .lt 9, 3) := by decide +kernel
theorem dX9_climb_5 : decode cX9_climb 5 = .ok (.iload_n 1, 1) := by decide +kernel
theorem dX9_climb_6 : decode cX9_climb 6 = .ok (.bipush 100, 2) := by decide +kernel
theorem dX9_climb_8 : decode cX9_climb 8 = .ok (.if_icmp .le 5, 3) := by decide +kernel
theorem dX9_climb_11 : decode cX9_climb 11 = .ok (.iconst (-1), 1) := by decide +kernel
theorem dX9_climb_12 : decode cX9_climb 12 = .ok (.ireturn, 1) := by decide +kernel
theorem dX9_climb_13 : decode cX9_climb 13 = .ok (.aload_n 0, 1) := by decide +kernel
theorem dX9_climb_14 : decode cX9_climb 14 = .ok (.invokevirtual 288, 3) := by decide +kernel
theorem dX9_climb_17 : decode cX9_climb 17 = .ok (.ifCond .eq 6, 3) := by decide +kernel
theorem dX9_climb_20 : decode cX9_climb 20 = .ok (.bipush (-4), 2) := by decide +kernel
theorem dX9_climb_22 : decode cX9_climb 22 = .ok (.ireturn, 1) := by decide +kernel
theorem dX9_climb_23 : decode cX9_climb 23 = .ok (.aload_n 0, 1) := by decide +kernel
theorem dX9_climb_24 : decode cX9_climb 24 = .ok (.invokevirtual 291, 3) := by decide +kernel
theorem dX9_climb_27 : decode cX9_climb 27 = .ok (.iconst 0, 1) := by decide +kernel
theorem dX9_climb_28 : decode cX9_climb 28 = .ok (.istore_n 2, 1) := by decide +kernel
theorem dX9_climb_29 : decode cX9_climb 29 = .ok (.iload_n 2, 1) := by decide +kernel
theorem dX9_climb_30 : decode cX9_climb 30 = .ok (.iload_n 1, 1) := by decide +kernel
theorem dX9_climb_31 : decode cX9_climb 31 = .ok (.if_icmp .ge 44, 3) := by decide +kernel
theorem dX9_climb_34 : decode cX9_climb 34 = .ok (.aload_n 0, 1) := by decide +kernel
theorem dX9_climb_35 : decode cX9_climb 35 = .ok (.getfield 64, 3) := by decide +kernel
theorem dX9_climb_38 : decode cX9_climb 38 = .ok (.invokevirtual 294, 3) := by decide +kernel
theorem dX9_climb_41 : decode cX9_climb 41 = .ok (.ldc2_w 298, 3) := by decide +kernel
theorem dX9_climb_44 : decode cX9_climb 44 = .ok (.lcmp, 1) := by decide +kernel
theorem dX9_climb_45 : decode cX9_climb 45 = .ok (.ifCond .ge 30, 3) := by decide +kernel
theorem dX9_climb_48 : decode cX9_climb 48 = .ok (.aload_n 0, 1) := by decide +kernel
theorem dX9_climb_49 : decode cX9_climb 49 = .ok (.getfield 64, 3) := by decide +kernel
theorem dX9_climb_52 : decode cX9_climb 52 = .ok (.invokevirtual 300, 3) := by decide +kernel
theorem dX9_climb_55 : decode cX9_climb 55 = .ok (.aload_n 0, 1) := by decide +kernel
theorem dX9_climb_56 : decode cX9_climb 56 = .ok (.getfield 64, 3) := by decide +kernel
theorem dX9_climb_59 : decode cX9_climb 59 = .ok (.invokevirtual 303, 3) := by decide +kernel
theorem dX9_climb_62 : decode cX9_climb 62 = .ok (.aload_n 0, 1) := by decide +kernel
theorem dX9_climb_63 : decode cX9_climb 63 = .ok (.getfield 64, 3) := by decide +kernel
theorem dX9_climb_66 : decode cX9_climb 66 = .ok (.invokevirtual 306, 3) := by decide +kernel
theorem dX9_climb_69 : decode cX9_climb 69 = .ok (.iinc 2 1, 3) := by decide +kernel
theorem dX9_climb_72 : decode cX9_climb 72 = .ok (.goto (-43), 3) := by decide +kernel
theorem dX9_climb_75 : decode cX9_climb 75 = .ok (.iload_n 2, 1) := by decide +kernel
theorem dX9_climb_76 : decode cX9_climb 76 = .ok (.ireturn, 1) := by decide +kernel
set_option maxRecDepth 20000 in
theorem ggX9_bound_X9_isTooSmall : GoodIn wsX9_bound wsX9_isTooSmall := goodIn_r _ [7, 8, 9, 10, 11, 12, 13, 14, 15, 16, 17, 18, 19, 20, 21, 183, 184, 185, 186, 187, 188, 189, 190, 191, 192, 193, 194, 195, 196, 197, 198, 199, 200, 201, 202, 203] (by decide +kernel) (by decide +kernel)
set_option maxRecDepth 20000 in
theorem gX9_bound_X9_isTooSmall : GoodIn wsX9_bound (wsV RX9 288 RX9 yX9_isTooSmall wsX9_isTooSmall) := goodIn_app (goodIn_of _ (by decide +kernel)) ggX9_bound_X9_isTooSmall
set_option maxRecDepth 20000 in
theorem ggX9_bound_X9_growEmptyCase : GoodIn wsX9_bound wsX9_growEmptyCase := goodIn_r _ [25, 2, 26, 27, 28, 6, 29, 8, 30, 31, 32, 33, 12, 34, 35, 36, 37, 38, 39, 40, 41, 42, 43, 44, 45, 46, 47, 48, 49, 50, 51, 52, 53, 54, 55, 56, 57, 58, 59, 60, 61, 62, 63, 64, 65, 66, 67, 68, 69, 70, 71, 72, 73, 74, 75, 76, 77, 78, 79, 80, 81, 82, 83, 84, 85, 86, 14, 87, 88, 89, 90, 91, 92, 93, 94, 95, 96, 97, 98, 99, 100, 101, 102, 103, 104, 105, 106, 107, 108, 109, 110, 111, 112, 113, 114, 115, 116, 117, 118, 119, 120, 121, 122, 123, 124, 125, 126, 127, 128, 129, 130, 131, 132, 133, 134, 135, 136, 137, 138, 139, 140, 141, 10, 11, 13, 15, 16, 17, 18, 19, 20, 21, 142, 143, 144, 145, 146, 147, 148, 149, 150, 151, 152, 153, 154, 155, 156, 157, 158, 159, 160, 161, 162, 163, 164, 165, 166, 167, 168, 169, 170, 171, 172, 173, 174, 175, 176, 183, 184, 185, 186, 187, 188, 189, 190, 191, 192, 193, 194, 195, 196, 197, 198, 199, 200, 201, 202, 203, 204, 205, 206, 207, 208, 209, 210, 211, 212, 213, 214, 215, 216, 217, 218, 219, 220, 221, 222, 223, 224, 225] (by decide +kernel) (by decide +kernel)
set_option maxRecDepth 20000 in
theorem gX9_bound_X9_growEmptyCase : GoodIn wsX9_bound (wsV RX9 291 RX9 yX9_growEmptyCase wsX9_growEmptyCase) := goodIn_app (goodIn_of _ (by decide +kernel)) ggX9_bound_X9_growEmptyCase
set_option maxRecDepth 20000 in
theorem ggX9_bound_X8_sumOfCase : GoodIn wsX9_bound wsX8_sumOfCase := goodIn_r _ [180, 109, 130, 132, 181, 131, 182, 133, 134, 135, 12, 136, 36, 14, 91, 6, 92, 111, 84, 85, 86, 87, 88, 89, 90, 217, 218, 219, 220, 221, 222, 223, 224, 225, 193, 194, 195, 196, 197, 198, 199, 200, 201, 202, 203] (by decide +kernel) (by decide +kernel)
set_option maxRecDepth 20000 in
theorem gX9_bound_X8_sumOfCase : GoodIn wsX9_bound (wsV RX9 294 RX8 yX8_sumOfCase wsX8_sumOfCase) := goodIn_app (goodIn_of _ (by decide +kernel)) ggX9_bound_X8_sumOfCase
theorem dX9_bound_0 : decode cX9_bound 0 = .ok (.aload_n 0, 1) := by decide +kernel
theorem dX9_bound_1 : decode cX9_bound 1 = .ok (.invokevirtual 288, 3) := by decide +kernel
theorem dX9_bound_4 : decode cX9_bound 4 = .ok (.ifCond .eq 7, 3) := by decide +kernel
theorem dX9_bound_7 : decode cX9_bound 7 = .ok (.ldc2_w 309, 3) := by decide +kernel
theorem dX9_bound_10 : decode cX9_bound 10 = .ok (.lreturn, 1) := by decide +kernel
theorem dX9_bound_11 : decode cX9_bound 11 = .ok (.aload_n 0, 1) := by decide +kernel
theorem dX9_bound_12 : decode cX9_bound 12 = .ok (.invokevirtual 291, 3) := by decide +kernel
theorem dX9_bound_15 : decode cX9_bound 15 = .ok (.aload_n 0, 1) := by decide +kernel
theorem dX9_bound_16 : decode cX9_bound 16 = .ok (.getfield 64, 3) := by decide +kernel
theorem dX9_bound_19 : decode cX9_bound 19 = .ok (.invokevirtual 294, 3) := by decide +kernel
theorem dX9_bound_22 : decode cX9_bound 22 = .ok (.lreturn, 1) := by decide +kernel
set_option maxRecDepth 20000 in
theorem ggX9_taken_X9_isTooSmall : GoodIn wsX9_taken wsX9_isTooSmall := goodIn_r _ [6, 7, 8, 9, 10, 11, 12, 13, 14, 15, 16, 17, 18, 19, 20, 176, 177, 178, 179, 180, 181, 182, 183, 184, 185, 195, 196, 197, 198, 199, 200, 201, 202, 203, 204, 205] (by decide +kernel) (by decide +kernel)
set_option maxRecDepth 20000 in
theorem gX9_taken_X9_isTooSmall : GoodIn wsX9_taken (wsV RX9 288 RX9 yX9_isTooSmall wsX9_isTooSmall) := goodIn_app (goodIn_of _ (by decide +kernel)) ggX9_taken_X9_isTooSmall
set_option maxRecDepth 20000 in
theorem ggX9_taken_X9_growEmptyCase : GoodIn wsX9_taken wsX9_growEmptyCase := goodIn_r _ [24, 1, 25, 26, 27, 5, 28, 7, 29, 30, 31, 32, 11, 33, 34, 35, 36, 37, 38, 39, 40, 41, 42, 43, 44, 45, 46, 47, 48, 49, 50, 51, 52, 53, 54, 55, 56, 57, 58, 59, 60, 61, 62, 63, 64, 65, 66, 67, 68, 69, 70, 71, 72, 73, 74, 75, 76, 77, 78, 79, 80, 81, 82, 83, 84, 85, 13, 86, 87, 88, 89, 90, 91, 92, 93, 94, 95, 96, 97, 98, 99, 100, 101, 102, 103, 104, 105, 106, 107, 108, 109, 110, 111, 112, 113, 114, 115, 116, 117, 118, 119, 120, 121, 122, 123, 124, 125, 126, 127, 128, 129, 130, 131, 132, 133, 134, 135, 136, 137, 138, 139, 140, 9, 10, 12, 14, 15, 16, 17, 18, 19, 20, 141, 142, 143, 144, 145, 146, 147, 148, 149, 150, 151, 152, 153, 154, 155, 156, 157, 158, 159, 160, 161, 162, 163, 164, 165, 166, 167, 168, 169, 170, 171, 172, 173, 174, 175, 176, 177, 178, 179, 180, 181, 182, 183, 184, 185, 195, 196, 197, 198, 199, 200, 201, 202, 203, 204, 205, 206, 207, 208, 209, 210, 211, 212, 213, 214, 215, 216, 217, 218, 186, 187, 188, 189, 190, 191, 192, 193, 194] (by decide +kernel) (by decide +kernel)
set_option maxRecDepth 20000 in
theorem gX9_taken_X9_growEmptyCase : GoodIn wsX9_taken (wsV RX9 291 RX9 yX9_growEmptyCase wsX9_growEmptyCase) := goodIn_app (goodIn_of _ (by decide +kernel)) ggX9_taken_X9_growEmptyCase
theorem dX9_taken_0 : decode cX9_taken 0 = .ok (.aload_n 0, 1) := by decide +kernel
theorem dX9_taken_1 : decode cX9_taken 1 = .ok (.invokevirtual 288, 3) := by decide +kernel
theorem dX9_taken_4 : decode cX9_taken 4 = .ok (.ifCond .eq 5, 3) := by decide +kernel
theorem dX9_taken_7 : decode cX9_taken 7 = .ok (.iconst (-1), 1) := by decide +kernel
theorem dX9_taken_8 : decode cX9_taken 8 = .ok (.ireturn, 1) := by decide +kernel
theorem dX9_taken_9 : decode cX9_taken 9 = .ok (.aload_n 0, 1) := by decide +kernel
theorem dX9_taken_10 : decode cX9_taken 10 = .ok (.invokevirtual 291, 3) := by decide +kernel
theorem dX9_taken_13 : decode cX9_taken 13 = .ok (.iload_n 1, 1) := by decide +kernel
theorem dX9_taken_14 : decode cX9_taken 14 = .ok (.ifCond .lt 26, 3) := by decide +kernel
theorem dX9_taken_17 : decode cX9_taken 17 = .ok (.iload_n 1, 1) := by decide +kernel
theorem dX9_taken_18 : decode cX9_taken 18 = .ok (.aload_n 0, 1) := by decide +kernel
theorem dX9_taken_19 : decode cX9_taken 19 = .ok (.getfield 64, 3) := by decide +kernel
theorem dX9_taken_22 : decode cX9_taken 22 = .ok (.getfield 311, 3) := by decide +kernel
theorem dX9_taken_25 : decode cX9_taken 25 = .ok (.if_icmp .ge 15, 3) := by decide +kernel
theorem dX9_taken_28 : decode cX9_taken 28 = .ok (.aload_n 0, 1) := by decide +kernel
theorem dX9_taken_29 : decode cX9_taken 29 = .ok (.getfield 64, 3) := by decide +kernel
theorem dX9_taken_32 : decode cX9_taken 32 = .ok (.getfield 314, 3) := by decide +kernel
theorem dX9_taken_35 : decode cX9_taken 35 = .ok (.iload_n 1, 1) := by decide +kernel
theorem dX9_taken_36 : decode cX9_taken 36 = .ok (.iaload, 1) := by decide +kernel
theorem dX9_taken_37 : decode cX9_taken 37 = .ok (.goto 4, 3) := by decide +kernel
theorem dX9_taken_40 : decode cX9_taken 40 = .ok (.iconst (-1), 1) := by decide +kernel
theorem dX9_taken_41 : decode cX9_taken 41 = .ok (.ireturn, 1) := by decide +kernel
set_option maxRecDepth 20000 in
theorem ggX9_prove_X9_isTooSmall : GoodIn wsX9_prove wsX9_isTooSmall := goodIn_r _ [8, 9, 10, 11, 12, 13, 14, 15, 16, 17, 18, 19, 20, 21, 22, 271, 272, 273, 274, 275, 276, 277, 278, 279, 280, 285, 286, 287, 288, 289, 290, 291, 292, 293, 294, 295] (by decide +kernel) (by decide +kernel)
set_option maxRecDepth 20000 in
theorem gX9_prove_X9_isTooSmall : GoodIn wsX9_prove (wsV RX9 288 RX9 yX9_isTooSmall wsX9_isTooSmall) := goodIn_app (goodIn_of _ (by decide +kernel)) ggX9_prove_X9_isTooSmall
set_option maxRecDepth 20000 in
theorem ggX9_prove_X9_beginEmptyCase : GoodIn wsX9_prove wsX9_beginEmptyCase := goodIn_r _ [26, 9, 27, 28, 29, 30, 31, 13, 32, 33, 34, 35, 36, 37, 38, 39, 40, 41, 42, 43, 44, 45, 46, 47, 48, 49, 50, 51, 52, 53, 54, 55, 56, 57, 58, 59, 60, 61, 62, 63, 64, 65, 66, 67, 68, 69, 70, 71, 72, 73, 74, 75, 76, 77, 78, 79, 80, 81, 82, 83, 84, 15, 85, 86, 87, 88, 89, 7, 90, 91, 92, 93, 94, 95, 96, 97, 98, 99, 100, 101, 102, 103, 104, 105, 106, 107, 108, 109, 110, 111, 112, 113, 114, 115, 116, 117, 118, 119, 120, 121, 122, 271, 272, 273, 274, 275, 276, 277, 278, 279, 280, 285, 286, 287, 288, 289, 290, 291, 292, 293, 294, 295, 296, 297, 298, 299, 300, 301, 302, 303, 304, 305, 306, 307, 308, 309, 310, 311, 312, 313, 314, 315, 316, 317] (by decide +kernel) (by decide +kernel)
set_option maxRecDepth 20000 in
theorem gX9_prove_X9_beginEmptyCase : GoodIn wsX9_prove (wsV RX9 317 RX9 yX9_beginEmptyCase wsX9_beginEmptyCase) := goodIn_app (goodIn_of _ (by decide +kernel)) ggX9_prove_X9_beginEmptyCase
set_option maxRecDepth 20000 in
theorem ggX9_prove_X1_write : GoodIn wsX9_prove wsX1_write := goodIn_r _ [127, 128, 129, 130, 131, 126, 132, 133, 134, 135, 136, 137, 138, 139, 140, 141, 142, 89, 7, 90, 143, 144, 145, 146, 147, 148, 149, 150, 151, 152, 153, 154, 155, 156, 157, 158, 159, 160, 82, 83, 13, 84, 15, 85, 86, 87, 88, 34, 161, 162, 163, 164, 165, 11, 12, 14, 16, 17, 18, 19, 20, 21, 22, 166, 167, 168, 169, 94, 170, 96, 171, 172, 173, 174, 175, 176, 177, 178, 179, 180, 181, 104, 182, 183, 184, 185, 186, 107, 187, 188, 189, 190, 191, 192, 193, 194, 106, 195, 196, 197, 198, 199, 108, 200, 201, 202, 203, 204, 205, 206, 207, 208, 209, 114, 210, 211, 212, 213, 214, 215, 216, 217, 97, 218, 219, 220, 221, 222, 223, 224, 225, 226, 227, 228, 229, 230, 231, 232, 233, 234, 235, 236, 109, 237, 238, 239, 240, 241, 242, 243, 244, 245, 246, 247, 248, 249, 250, 251, 252, 98, 253, 254, 117, 118, 255, 256, 257, 258, 259, 260, 261, 262, 99, 281, 282, 283, 284, 318, 319, 320, 303, 304, 305, 306, 307, 308, 285, 286, 287, 288, 289, 290, 291, 292, 293, 294, 295, 309, 310, 311, 312, 313, 314, 315, 316, 317] (by decide +kernel) (by decide +kernel)
set_option maxRecDepth 20000 in
theorem gX9_prove_X1_write : GoodIn wsX9_prove (wsV RX9 320 RX1 yX1_write wsX1_write) := goodIn_app (goodIn_of _ (by decide +kernel)) ggX9_prove_X1_write
set_option maxRecDepth 20000 in
theorem ggX9_prove_X3_copyFrom : GoodIn wsX9_prove wsX3_copyFrom := goodIn_r _ [266, 153, 148, 267, 268, 269, 270, 154, 155, 281, 282, 283, 284] (by decide +kernel) (by decide +kernel)
set_option maxRecDepth 20000 in
theorem gX9_prove_X3_copyFrom : GoodIn wsX9_prove (wsV RX9 323 RX3 yX3_copyFrom wsX3_copyFrom) := goodIn_app (goodIn_of _ (by decide +kernel)) ggX9_prove_X3_copyFrom
theorem dX9_prove_0 : decode cX9_prove 0 = .ok (.iload_n 1, 1) := by decide +kernel
theorem dX9_prove_1 : decode cX9_prove 1 = .ok (.ifCond .ge 5, 3) := by decide +kernel
theorem dX9_prove_4 : decode cX9_prove 4 = .ok (.iconst (-1), 1) := by decide +kernel
theorem dX9_prove_5 : decode cX9_prove 5 = .ok (.ireturn, 1) := by decide +kernel
theorem dX9_prove_6 : decode cX9_prove 6 = .ok (.aload_n 0, 1) := by decide +kernel
theorem dX9_prove_7 : decode cX9_prove 7 = .ok (.invokevirtual 288, 3) := by decide +kernel
theorem dX9_prove_10 : decode cX9_prove 10 = .ok (.ifCond .eq 6, 3) := by decide +kernel
theorem dX9_prove_13 : decode cX9_prove 13 = .ok (.bipush (-4), 2) := by decide +kernel
theorem dX9_prove_15 : decode cX9_prove 15 = .ok (.ireturn, 1) := by decide +kernel
theorem dX9_prove_16 : decode cX9_prove 16 = .ok (.aload_n 0, 1) := by decide +kernel
theorem dX9_prove_17 : decode cX9_prove 17 = .ok (.invokevirtual 317, 3) := by decide +kernel
theorem dX9_prove_20 : decode cX9_prove 20 = .ok (.aload_n 0, 1) := by decide +kernel
theorem dX9_prove_21 : decode cX9_prove 21 = .ok (.getfield 73, 3) := by decide +kernel
theorem dX9_prove_24 : decode cX9_prove 24 = .ok (.aload_n 0, 1) := by decide +kernel
theorem dX9_prove_25 : decode cX9_prove 25 = .ok (.getfield 84, 3) := by decide +kernel
theorem dX9_prove_28 : decode cX9_prove 28 = .ok (.iload_n 1, 1) := by decide +kernel
theorem dX9_prove_29 : decode cX9_prove 29 = .ok (.invokevirtual 320, 3) := by decide +kernel
theorem dX9_prove_32 : decode cX9_prove 32 = .ok (.ifCond .ne 6, 3) := by decide +kernel
theorem dX9_prove_35 : decode cX9_prove 35 = .ok (.bipush (-9), 2) := by decide +kernel
theorem dX9_prove_37 : decode cX9_prove 37 = .ok (.ireturn, 1) := by decide +kernel
theorem dX9_prove_38 : decode cX9_prove 38 = .ok (.aload_n 0, 1) := by decide +kernel
theorem dX9_prove_39 : decode cX9_prove 39 = .ok (.getfield 80, 3) := by decide +kernel
theorem dX9_prove_42 : decode cX9_prove 42 = .ok (.aload_n 0, 1) := by decide +kernel
theorem dX9_prove_43 : decode cX9_prove 43 = .ok (.getfield 84, 3) := by decide +kernel
theorem dX9_prove_46 : decode cX9_prove 46 = .ok (.invokevirtual 323, 3) := by decide +kernel
theorem dX9_prove_49 : decode cX9_prove 49 = .ok (.aload_n 0, 1) := by decide +kernel
theorem dX9_prove_50 : decode cX9_prove 50 = .ok (.getfield 80, 3) := by decide +kernel
theorem dX9_prove_53 : decode cX9_prove 53 = .ok (.getfield 210, 3) := by decide +kernel
theorem dX9_prove_56 : decode cX9_prove 56 = .ok (.ireturn, 1) := by decide +kernel
set_option maxRecDepth 20000 in
theorem ggX9_line_X9_isOp : GoodIn wsX9_line wsX9_isOp := goodIn_r _ [5] (by decide +kernel) (by decide +kernel)
set_option maxRecDepth 20000 in
theorem gX9_line_X9_isOp : GoodIn wsX9_line (va_wsS RX9 326 yX9_isOp wsX9_isOp) := goodIn_app (goodIn_of _ (by decide +kernel)) ggX9_line_X9_isOp
set_option maxRecDepth 20000 in
theorem ggX9_line_X3_append : GoodIn wsX9_line wsX3_append := goodIn_r _ [10, 11, 12, 13, 14, 9, 15, 16, 17, 18, 29, 30, 31, 32] (by decide +kernel) (by decide +kernel)
set_option maxRecDepth 20000 in
theorem gX9_line_X3_append : GoodIn wsX9_line (wsV RX9 329 RX3 yX3_append wsX3_append) := goodIn_app (goodIn_of _ (by decide +kernel)) ggX9_line_X3_append
theorem dX9_line_0 : decode cX9_line 0 = .ok (.iload_n 1, 1) := by decide +kernel
theorem dX9_line_1 : decode cX9_line 1 = .ok (.invokestatic 326, 3) := by decide +kernel
theorem dX9_line_4 : decode cX9_line 4 = .ok (.ifCond .ne 5, 3) := by decide +kernel
theorem dX9_line_7 : decode cX9_line 7 = .ok (.iconst (-1), 1) := by decide +kernel
theorem dX9_line_8 : decode cX9_line 8 = .ok (.ireturn, 1) := by decide +kernel
theorem dX9_line_9 : decode cX9_line 9 = .ok (.aload_n 0, 1) := by decide +kernel
theorem dX9_line_10 : decode cX9_line 10 = .ok (.getfield 80, 3) := by decide +kernel
theorem dX9_line_13 : decode cX9_line 13 = .ok (.getfield 210, 3) := by decide +kernel
theorem dX9_line_16 : decode cX9_line 16 = .ok (.sipush 400, 3) := by decide +kernel
theorem dX9_line_19 : decode cX9_line 19 = .ok (.if_icmp .lt 6, 3) := by decide +kernel
theorem dX9_line_22 : decode cX9_line 22 = .ok (.bipush (-2), 2) := by decide +kernel
theorem dX9_line_24 : decode cX9_line 24 = .ok (.ireturn, 1) := by decide +kernel
theorem dX9_line_25 : decode cX9_line 25 = .ok (.aload_n 0, 1) := by decide +kernel
theorem dX9_line_26 : decode cX9_line 26 = .ok (.getfield 80, 3) := by decide +kernel
theorem dX9_line_29 : decode cX9_line 29 = .ok (.iload_n 1, 1) := by decide +kernel
theorem dX9_line_30 : decode cX9_line 30 = .ok (.iload_n 2, 1) := by decide +kernel
theorem dX9_line_31 : decode cX9_line 31 = .ok (.iload_n 3, 1) := by decide +kernel
theorem dX9_line_32 : decode cX9_line 32 = .ok (.invokevirtual 329, 3) := by decide +kernel
theorem dX9_line_35 : decode cX9_line 35 = .ok (.aload_n 0, 1) := by decide +kernel
theorem dX9_line_36 : decode cX9_line 36 = .ok (.getfield 80, 3) := by decide +kernel
theorem dX9_line_39 : decode cX9_line 39 = .ok (.getfield 210, 3) := by decide +kernel
theorem dX9_line_42 : decode cX9_line 42 = .ok (.ireturn, 1) := by decide +kernel
set_option maxRecDepth 20000 in
theorem ggX9_alter_X3_hasLine : GoodIn wsX9_alter wsX3_hasLine := goodIn_r _ [6, 7, 29, 30, 31, 32] (by decide +kernel) (by decide +kernel)
set_option maxRecDepth 20000 in
theorem gX9_alter_X3_hasLine : GoodIn wsX9_alter (wsV RX9 331 RX3 yX3_hasLine wsX3_hasLine) := goodIn_app (goodIn_of _ (by decide +kernel)) ggX9_alter_X3_hasLine
set_option maxRecDepth 20000 in
theorem ggX9_alter_X9_isOp : GoodIn wsX9_alter wsX9_isOp := goodIn_r _ [11] (by decide +kernel) (by decide +kernel)
set_option maxRecDepth 20000 in
theorem gX9_alter_X9_isOp : GoodIn wsX9_alter (va_wsS RX9 326 yX9_isOp wsX9_isOp) := goodIn_app (goodIn_of _ (by decide +kernel)) ggX9_alter_X9_isOp
set_option maxRecDepth 20000 in
theorem ggX9_alter_X3_write : GoodIn wsX9_alter wsX3_write := goodIn_r _ [15, 16, 17, 18, 29, 30, 31, 32] (by decide +kernel) (by decide +kernel)
set_option maxRecDepth 20000 in
theorem gX9_alter_X3_write : GoodIn wsX9_alter (wsV RX9 334 RX3 yX3_write wsX3_write) := goodIn_app (goodIn_of _ (by decide +kernel)) ggX9_alter_X3_write
theorem dX9_alter_0 : decode cX9_alter 0 = .ok (.aload_n 0, 1) := by decide +kernel
theorem dX9_alter_1 : decode cX9_alter 1 = .ok (.getfield 80, 3) := by decide +kernel
theorem dX9_alter_4 : decode cX9_alter 4 = .ok (.iload_n 1, 1) := by decide +kernel
theorem dX9_alter_5 : decode cX9_alter 5 = .ok (.invokevirtual 331, 3) := by decide +kernel
theorem dX9_alter_8 : decode cX9_alter 8 = .ok (.ifCond .eq 10, 3) := by decide +kernel
theorem dX9_alter_11 : decode cX9_alter 11 = .ok (.iload_n 2, 1) := by decide +kernel
theorem dX9_alter_12 : decode cX9_alter 12 = .ok (.invokestatic 326, 3) := by decide +kernel
theorem dX9_alter_15 : decode cX9_alter 15 = .ok (.ifCond .ne 5, 3) := by decide +kernel
theorem dX9_alter_18 : decode cX9_alter 18 = .ok (.iconst (-1), 1) := by decide +kernel
theorem dX9_alter_19 : decode cX9_alter 19 = .ok (.ireturn, 1) := by decide +kernel
theorem dX9_alter_20 : decode cX9_alter 20 = .ok (.aload_n 0, 1) := by decide +kernel
theorem dX9_alter_21 : decode cX9_alter 21 = .ok (.getfield 80, 3) := by decide +kernel
theorem dX9_alter_24 : decode cX9_alter 24 = .ok (.iload_n 1, 1) := by decide +kernel
theorem dX9_alter_25 : decode cX9_alter 25 = .ok (.iload_n 2, 1) := by decide +kernel
theorem dX9_alter_26 : decode cX9_alter 26 = .ok (.iload_n 3, 1) := by decide +kernel
theorem dX9_alter_27 : decode cX9_alter 27 = .ok (.iload 4, 2) := by decide +kernel
theorem dX9_alter_29 : decode cX9_alter 29 = .ok (.invokevirtual 334, 3) := by decide +kernel
theorem dX9_alter_32 : decode cX9_alter 32 = .ok (.iconst 1, 1) := by decide +kernel
theorem dX9_alter_33 : decode cX9_alter 33 = .ok (.ireturn, 1) := by decide +kernel
theorem dX9_cut_0 : decode cX9_cut 0 = .ok (.iload_n 1, 1) := by decide +kernel
theorem dX9_cut_1 : decode cX9_cut 1 = .ok (.ifCond .lt 14, 3) := by decide +kernel
theorem dX9_cut_4 : decode cX9_cut 4 = .ok (.iload_n 1, 1) := by decide +kernel
theorem dX9_cut_5 : decode cX9_cut 5 = .ok (.aload_n 0, 1) := by decide +kernel
theorem dX9_cut_6 : decode cX9_cut 6 = .ok (.getfield 80, 3) := by decide +kernel
theorem dX9_cut_9 : decode cX9_cut 9 = .ok (.getfield 210, 3) := by decide +kernel
theorem dX9_cut_12 : decode cX9_cut 12 = .ok (.if_icmp .le 5, 3) := by decide +kernel
theorem dX9_cut_15 : decode cX9_cut 15 = .ok (.iconst (-1), 1) := by decide +kernel
theorem dX9_cut_16 : decode cX9_cut 16 = .ok (.ireturn, 1) := by decide +kernel
theorem dX9_cut_17 : decode cX9_cut 17 = .ok (.aload_n 0, 1) := by decide +kernel
theorem dX9_cut_18 : decode cX9_cut 18 = .ok (.getfield 80, 3) := by decide +kernel
theorem dX9_cut_21 : decode cX9_cut 21 = .ok (.iload_n 1, 1) := by decide +kernel
theorem dX9_cut_22 : decode cX9_cut 22 = .ok (.putfield 210, 3) := by decide +kernel
theorem dX9_cut_25 : decode cX9_cut 25 = .ok (.iload_n 1, 1) := by decide +kernel
theorem dX9_cut_26 : decode cX9_cut 26 = .ok (.ireturn, 1) := by decide +kernel
set_option maxRecDepth 20000 in
theorem ggX9_shown_X3_hasLine : GoodIn wsX9_shown wsX3_hasLine := goodIn_r _ [7, 8, 19, 20, 21, 22] (by decide +kernel) (by decide +kernel)
set_option maxRecDepth 20000 in
theorem gX9_shown_X3_hasLine : GoodIn wsX9_shown (wsV RX9 331 RX3 yX3_hasLine wsX3_hasLine) := goodIn_app (goodIn_of _ (by decide +kernel)) ggX9_shown_X3_hasLine
theorem dX9_shown_0 : decode cX9_shown 0 = .ok (.aload_n 0, 1) := by decide +kernel
theorem dX9_shown_1 : decode cX9_shown 1 = .ok (.getfield 80, 3) := by decide +kernel
theorem dX9_shown_4 : decode cX9_shown 4 = .ok (.iload_n 1, 1) := by decide +kernel
theorem dX9_shown_5 : decode cX9_shown 5 = .ok (.invokevirtual 331, 3) := by decide +kernel
theorem dX9_shown_8 : decode cX9_shown 8 = .ok (.ifCond .ne 6, 3) := by decide +kernel
theorem dX9_shown_11 : decode cX9_shown 11 = .ok (.ldc 195, 2) := by decide +kernel
theorem dX9_shown_13 : decode cX9_shown 13 = .ok (.ireturn, 1) := by decide +kernel
theorem dX9_shown_14 : decode cX9_shown 14 = .ok (.iload_n 2, 1) := by decide +kernel
theorem dX9_shown_15 : decode cX9_shown 15 = .ok (.tableswitch 55 0 2 #[25, 35, 45], 25) := by decide +kernel
theorem dX9_shown_40 : decode cX9_shown 40 = .ok (.aload_n 0, 1) := by decide +kernel
theorem dX9_shown_41 : decode cX9_shown 41 = .ok (.getfield 80, 3) := by decide +kernel
theorem dX9_shown_44 : decode cX9_shown 44 = .ok (.getfield 337, 3) := by decide +kernel
theorem dX9_shown_47 : decode cX9_shown 47 = .ok (.iload_n 1, 1) := by decide +kernel
theorem dX9_shown_48 : decode cX9_shown 48 = .ok (.iaload, 1) := by decide +kernel
theorem dX9_shown_49 : decode cX9_shown 49 = .ok (.ireturn, 1) := by decide +kernel
theorem dX9_shown_50 : decode cX9_shown 50 = .ok (.aload_n 0, 1) := by decide +kernel
theorem dX9_shown_51 : decode cX9_shown 51 = .ok (.getfield 80, 3) := by decide +kernel
theorem dX9_shown_54 : decode cX9_shown 54 = .ok (.getfield 340, 3) := by decide +kernel
theorem dX9_shown_57 : decode cX9_shown 57 = .ok (.iload_n 1, 1) := by decide +kernel
theorem dX9_shown_58 : decode cX9_shown 58 = .ok (.iaload, 1) := by decide +kernel
theorem dX9_shown_59 : decode cX9_shown 59 = .ok (.ireturn, 1) := by decide +kernel
theorem dX9_shown_60 : decode cX9_shown 60 = .ok (.aload_n 0, 1) := by decide +kernel
theorem dX9_shown_61 : decode cX9_shown 61 = .ok (.getfield 80, 3) := by decide +kernel
theorem dX9_shown_64 : decode cX9_shown 64 = .ok (.getfield 343, 3) := by decide +kernel
theorem dX9_shown_67 : decode cX9_shown 67 = .ok (.iload_n 1, 1) := by decide +kernel
theorem dX9_shown_68 : decode cX9_shown 68 = .ok (.iaload, 1) := by decide +kernel
theorem dX9_shown_69 : decode cX9_shown 69 = .ok (.ireturn, 1) := by decide +kernel
theorem dX9_shown_70 : decode cX9_shown 70 = .ok (.ldc 195, 2) := by decide +kernel
theorem dX9_shown_72 : decode cX9_shown 72 = .ok (.ireturn, 1) := by decide +kernel
set_option maxRecDepth 20000 in
theorem ggX9_check_X9_isTooSmall : GoodIn wsX9_check wsX9_isTooSmall := goodIn_r _ [7, 8, 9, 10, 11, 12, 13, 14, 15, 16, 17, 18, 19, 20, 21, 237, 238, 239, 240, 241, 242, 243, 244, 245, 246, 247, 248, 249, 250, 251, 252, 253, 254, 255, 256, 257] (by decide +kernel) (by decide +kernel)
set_option maxRecDepth 20000 in
theorem gX9_check_X9_isTooSmall : GoodIn wsX9_check (wsV RX9 288 RX9 yX9_isTooSmall wsX9_isTooSmall) := goodIn_app (goodIn_of _ (by decide +kernel)) ggX9_check_X9_isTooSmall
set_option maxRecDepth 20000 in
theorem ggX9_check_X9_beginEmptyCase : GoodIn wsX9_check wsX9_beginEmptyCase := goodIn_r _ [25, 8, 26, 27, 28, 29, 30, 12, 31, 32, 33, 34, 35, 36, 37, 38, 39, 40, 41, 42, 43, 44, 45, 46, 47, 48, 49, 50, 51, 52, 53, 54, 55, 56, 57, 58, 59, 60, 61, 62, 63, 64, 65, 66, 67, 68, 69, 70, 71, 72, 73, 74, 75, 76, 77, 78, 79, 80, 81, 82, 83, 14, 84, 85, 86, 87, 88, 6, 89, 90, 91, 92, 93, 94, 95, 96, 97, 98, 99, 100, 101, 102, 103, 104, 105, 106, 107, 108, 109, 110, 111, 112, 113, 114, 115, 116, 117, 118, 119, 120, 121, 237, 238, 239, 240, 241, 242, 243, 244, 245, 246, 247, 248, 249, 250, 251, 252, 253, 254, 255, 256, 257, 258, 259, 260, 261, 262, 263, 264, 265, 266, 267, 268, 269, 270, 271, 272, 273, 274, 275, 276, 277, 278, 279] (by decide +kernel) (by decide +kernel)
set_option maxRecDepth 20000 in
theorem gX9_check_X9_beginEmptyCase : GoodIn wsX9_check (wsV RX9 317 RX9 yX9_beginEmptyCase wsX9_beginEmptyCase) := goodIn_app (goodIn_of _ (by decide +kernel)) ggX9_check_X9_beginEmptyCase
set_option maxRecDepth 20000 in
theorem ggX9_check_X1_wrongLine : GoodIn wsX9_check wsX1_wrongLine := goodIn_r _ [126, 127, 128, 129, 130, 125, 131, 132, 133, 81, 82, 12, 83, 14, 84, 85, 86, 87, 33, 88, 6, 89, 134, 135, 136, 93, 137, 95, 96, 138, 139, 140, 141, 142, 143, 144, 145, 103, 146, 147, 148, 149, 150, 106, 151, 152, 153, 154, 155, 156, 157, 158, 105, 159, 10, 11, 13, 15, 16, 17, 18, 19, 20, 21, 160, 161, 162, 163, 107, 164, 165, 166, 167, 168, 169, 170, 171, 172, 173, 113, 174, 175, 176, 177, 178, 179, 180, 181, 182, 183, 184, 185, 186, 187, 188, 189, 190, 191, 192, 193, 194, 195, 196, 197, 198, 199, 200, 108, 201, 202, 203, 204, 205, 206, 207, 208, 209, 210, 211, 212, 213, 214, 215, 216, 217, 218, 219, 220, 221, 222, 223, 224, 225, 226, 97, 227, 228, 116, 117, 229, 230, 231, 232, 233, 234, 235, 236, 98, 280, 281, 282, 283, 284, 285, 286, 265, 266, 267, 268, 269, 270, 247, 248, 249, 250, 251, 252, 253, 254, 255, 256, 257, 271, 272, 273, 274, 275, 276, 277, 278, 279] (by decide +kernel) (by decide +kernel)
set_option maxRecDepth 20000 in
theorem gX9_check_X1_wrongLine : GoodIn wsX9_check (wsV RX9 346 RX1 yX1_wrongLine wsX1_wrongLine) := goodIn_app (goodIn_of _ (by decide +kernel)) ggX9_check_X1_wrongLine
theorem dX9_check_0 : decode cX9_check 0 = .ok (.iload_n 1, 1) := by decide +kernel
theorem dX9_check_1 : decode cX9_check 1 = .ok (.ifCond .ge 6, 3) := by decide +kernel
theorem dX9_check_4 : decode cX9_check 4 = .ok (.bipush (-2), 2) := by decide +kernel
theorem dX9_check_6 : decode cX9_check 6 = .ok (.ireturn, 1) := by decide +kernel
theorem dX9_check_7 : decode cX9_check 7 = .ok (.aload_n 0, 1) := by decide +kernel
theorem dX9_check_8 : decode cX9_check 8 = .ok (.invokevirtual 288, 3) := by decide +kernel
theorem dX9_check_11 : decode cX9_check 11 = .ok (.ifCond .eq 6, 3) := by decide +kernel
theorem dX9_check_14 : decode cX9_check 14 = .ok (.bipush (-4), 2) := by decide +kernel
theorem dX9_check_16 : decode cX9_check 16 = .ok (.ireturn, 1) := by decide +kernel
theorem dX9_check_17 : decode cX9_check 17 = .ok (.aload_n 0, 1) := by decide +kernel
theorem dX9_check_18 : decode cX9_check 18 = .ok (.invokevirtual 317, 3) := by decide +kernel
theorem dX9_check_21 : decode cX9_check 21 = .ok (.aload_n 0, 1) := by decide +kernel
theorem dX9_check_22 : decode cX9_check 22 = .ok (.getfield 73, 3) := by decide +kernel
theorem dX9_check_25 : decode cX9_check 25 = .ok (.aload_n 0, 1) := by decide +kernel
theorem dX9_check_26 : decode cX9_check 26 = .ok (.getfield 80, 3) := by decide +kernel
theorem dX9_check_29 : decode cX9_check 29 = .ok (.iload_n 1, 1) := by decide +kernel
theorem dX9_check_30 : decode cX9_check 30 = .ok (.invokevirtual 346, 3) := by decide +kernel
theorem dX9_check_33 : decode cX9_check 33 = .ok (.ireturn, 1) := by decide +kernel
theorem dX9_isCrossing_0 : decode cX9_isCrossing 0 = .ok (.iload_n 0, 1) := by decide +kernel
theorem dX9_isCrossing_1 : decode cX9_isCrossing 1 = .ok (.ifCond .lt 13, 3) := by decide +kernel
theorem dX9_isCrossing_4 : decode cX9_isCrossing 4 = .ok (.iload_n 0, 1) := by decide +kernel
theorem dX9_isCrossing_5 : decode cX9_isCrossing 5 = .ok (.bipush 40, 2) := by decide +kernel
theorem dX9_isCrossing_7 : decode cX9_isCrossing 7 = .ok (.if_icmp .ge 7, 3) := by decide +kernel
theorem dX9_isCrossing_10 : decode cX9_isCrossing 10 = .ok (.iconst 1, 1) := by decide +kernel
theorem dX9_isCrossing_11 : decode cX9_isCrossing 11 = .ok (.goto 4, 3) := by decide +kernel
theorem dX9_isCrossing_14 : decode cX9_isCrossing 14 = .ok (.iconst 0, 1) := by decide +kernel
theorem dX9_isCrossing_15 : decode cX9_isCrossing 15 = .ok (.ireturn, 1) := by decide +kernel
theorem dX9_isLength_0 : decode cX9_isLength 0 = .ok (.lload_n 0, 1) := by decide +kernel
theorem dX9_isLength_1 : decode cX9_isLength 1 = .ok (.lconst 1, 1) := by decide +kernel
theorem dX9_isLength_2 : decode cX9_isLength 2 = .ok (.lcmp, 1) := by decide +kernel
theorem dX9_isLength_3 : decode cX9_isLength 3 = .ok (.ifCond .lt 15, 3) := by decide +kernel
theorem dX9_isLength_6 : decode cX9_isLength 6 = .ok (.lload_n 0, 1) := by decide +kernel
theorem dX9_isLength_7 : decode cX9_isLength 7 = .ok (.ldc2_w 350, 3) := by decide +kernel
theorem dX9_isLength_10 : decode cX9_isLength 10 = .ok (.lcmp, 1) := by decide +kernel
theorem dX9_isLength_11 : decode cX9_isLength 11 = .ok (.ifCond .gt 7, 3) := by decide +kernel
theorem dX9_isLength_14 : decode cX9_isLength 14 = .ok (.iconst 1, 1) := by decide +kernel
theorem dX9_isLength_15 : decode cX9_isLength 15 = .ok (.goto 4, 3) := by decide +kernel
theorem dX9_isLength_18 : decode cX9_isLength 18 = .ok (.iconst 0, 1) := by decide +kernel
theorem dX9_isLength_19 : decode cX9_isLength 19 = .ok (.ireturn, 1) := by decide +kernel
theorem dX9_isOp_0 : decode cX9_isOp 0 = .ok (.iload_n 0, 1) := by decide +kernel
theorem dX9_isOp_1 : decode cX9_isOp 1 = .ok (.iconst 1, 1) := by decide +kernel
theorem dX9_isOp_2 : decode cX9_isOp 2 = .ok (.if_icmp .lt 13, 3) := by decide +kernel
theorem dX9_isOp_5 : decode cX9_isOp 5 = .ok (.iload_n 0, 1) := by decide +kernel
theorem dX9_isOp_6 : decode cX9_isOp 6 = .ok (.bipush 6, 2) := by decide +kernel
theorem dX9_isOp_8 : decode cX9_isOp 8 = .ok (.if_icmp .gt 7, 3) := by decide +kernel
theorem dX9_isOp_11 : decode cX9_isOp 11 = .ok (.iconst 1, 1) := by decide +kernel
theorem dX9_isOp_12 : decode cX9_isOp 12 = .ok (.goto 4, 3) := by decide +kernel
theorem dX9_isOp_15 : decode cX9_isOp 15 = .ok (.iconst 0, 1) := by decide +kernel
theorem dX9_isOp_16 : decode cX9_isOp 16 = .ok (.ireturn, 1) := by decide +kernel
theorem dX9_isIn_0 : decode cX9_isIn 0 = .ok (.iload_n 0, 1) := by decide +kernel
theorem dX9_isIn_1 : decode cX9_isIn 1 = .ok (.iload_n 1, 1) := by decide +kernel
theorem dX9_isIn_2 : decode cX9_isIn 2 = .ok (.ishr, 1) := by decide +kernel
theorem dX9_isIn_3 : decode cX9_isIn 3 = .ok (.iconst 1, 1) := by decide +kernel
theorem dX9_isIn_4 : decode cX9_isIn 4 = .ok (.iand, 1) := by decide +kernel
theorem dX9_isIn_5 : decode cX9_isIn 5 = .ok (.iconst 1, 1) := by decide +kernel
theorem dX9_isIn_6 : decode cX9_isIn 6 = .ok (.if_icmp .ne 7, 3) := by decide +kernel
theorem dX9_isIn_9 : decode cX9_isIn 9 = .ok (.iconst 1, 1) := by decide +kernel
theorem dX9_isIn_10 : decode cX9_isIn 10 = .ok (.goto 4, 3) := by decide +kernel
theorem dX9_isIn_13 : decode cX9_isIn 13 = .ok (.iconst 0, 1) := by decide +kernel
theorem dX9_isIn_14 : decode cX9_isIn 14 = .ok (.ireturn, 1) := by decide +kernel
theorem dX9_pairOf_0 : decode cX9_pairOf 0 = .ok (.bipush 16, 2) := by decide +kernel
theorem dX9_pairOf_2 : decode cX9_pairOf 2 = .ok (.iload_n 0, 1) := by decide +kernel
theorem dX9_pairOf_3 : decode cX9_pairOf 3 = .ok (.imul, 1) := by decide +kernel
theorem dX9_pairOf_4 : decode cX9_pairOf 4 = .ok (.iload_n 1, 1) := by decide +kernel
theorem dX9_pairOf_5 : decode cX9_pairOf 5 = .ok (.iadd, 1) := by decide +kernel
theorem dX9_pairOf_6 : decode cX9_pairOf 6 = .ok (.ireturn, 1) := by decide +kernel
theorem dX9_lesserOf_0 : decode cX9_lesserOf 0 = .ok (.iload_n 0, 1) := by decide +kernel
theorem dX9_lesserOf_1 : decode cX9_lesserOf 1 = .ok (.iconst 4, 1) := by decide +kernel
theorem dX9_lesserOf_2 : decode cX9_lesserOf 2 = .ok (.ishr, 1) := by decide +kernel
theorem dX9_lesserOf_3 : decode cX9_lesserOf 3 = .ok (.bipush 15, 2) := by decide +kernel
theorem dX9_lesserOf_5 : decode cX9_lesserOf 5 = .ok (.iand, 1) := by decide +kernel
theorem dX9_lesserOf_6 : decode cX9_lesserOf 6 = .ok (.ireturn, 1) := by decide +kernel
theorem dX9_greaterOf_0 : decode cX9_greaterOf 0 = .ok (.iload_n 0, 1) := by decide +kernel
theorem dX9_greaterOf_1 : decode cX9_greaterOf 1 = .ok (.bipush 15, 2) := by decide +kernel
theorem dX9_greaterOf_3 : decode cX9_greaterOf 3 = .ok (.iand, 1) := by decide +kernel
theorem dX9_greaterOf_4 : decode cX9_greaterOf 4 = .ok (.ireturn, 1) := by decide +kernel
set_option maxRecDepth 20000 in
theorem ggX9_isLarge_X2_liveCount : GoodIn wsX9_isLarge wsX2_liveCount := goodIn_r _ [6, 7, 8, 9, 10, 11, 12, 13, 14, 25, 26, 27, 28, 29, 30, 31, 32, 33, 34, 35] (by decide +kernel) (by decide +kernel)
set_option maxRecDepth 20000 in
theorem gX9_isLarge_X2_liveCount : GoodIn wsX9_isLarge (wsV RX9 206 RX2 yX2_liveCount wsX2_liveCount) := goodIn_app (goodIn_of _ (by decide +kernel)) ggX9_isLarge_X2_liveCount
theorem dX9_isLarge_0 : decode cX9_isLarge 0 = .ok (.aload_n 0, 1) := by decide +kernel
theorem dX9_isLarge_1 : decode cX9_isLarge 1 = .ok (.getfield 32, 3) := by decide +kernel
theorem dX9_isLarge_4 : decode cX9_isLarge 4 = .ok (.invokevirtual 206, 3) := by decide +kernel
theorem dX9_isLarge_7 : decode cX9_isLarge 7 = .ok (.bipush 8, 2) := by decide +kernel
theorem dX9_isLarge_9 : decode cX9_isLarge 9 = .ok (.if_icmp .le 7, 3) := by decide +kernel
theorem dX9_isLarge_12 : decode cX9_isLarge 12 = .ok (.iconst 1, 1) := by decide +kernel
theorem dX9_isLarge_13 : decode cX9_isLarge 13 = .ok (.goto 4, 3) := by decide +kernel
theorem dX9_isLarge_16 : decode cX9_isLarge 16 = .ok (.iconst 0, 1) := by decide +kernel
theorem dX9_isLarge_17 : decode cX9_isLarge 17 = .ok (.ireturn, 1) := by decide +kernel
set_option maxRecDepth 20000 in
theorem ggX9_isTooSmall_X2_liveCount : GoodIn wsX9_isTooSmall wsX2_liveCount := goodIn_r _ [6, 7, 8, 9, 10, 11, 12, 13, 14, 25, 26, 27, 28, 29, 30, 31, 32, 33, 34, 35] (by decide +kernel) (by decide +kernel)
set_option maxRecDepth 20000 in
theorem gX9_isTooSmall_X2_liveCount : GoodIn wsX9_isTooSmall (wsV RX9 206 RX2 yX2_liveCount wsX2_liveCount) := goodIn_app (goodIn_of _ (by decide +kernel)) ggX9_isTooSmall_X2_liveCount
theorem dX9_isTooSmall_0 : decode cX9_isTooSmall 0 = .ok (.aload_n 0, 1) := by decide +kernel
theorem dX9_isTooSmall_1 : decode cX9_isTooSmall 1 = .ok (.getfield 32, 3) := by decide +kernel
theorem dX9_isTooSmall_4 : decode cX9_isTooSmall 4 = .ok (.invokevirtual 206, 3) := by decide +kernel
theorem dX9_isTooSmall_7 : decode cX9_isTooSmall 7 = .ok (.iconst 3, 1) := by decide +kernel
theorem dX9_isTooSmall_8 : decode cX9_isTooSmall 8 = .ok (.if_icmp .ge 7, 3) := by decide +kernel
theorem dX9_isTooSmall_11 : decode cX9_isTooSmall 11 = .ok (.iconst 1, 1) := by decide +kernel
theorem dX9_isTooSmall_12 : decode cX9_isTooSmall 12 = .ok (.goto 4, 3) := by decide +kernel
theorem dX9_isTooSmall_15 : decode cX9_isTooSmall 15 = .ok (.iconst 0, 1) := by decide +kernel
theorem dX9_isTooSmall_16 : decode cX9_isTooSmall 16 = .ok (.ireturn, 1) := by decide +kernel
set_option maxRecDepth 20000 in
theorem ggX9_lanesChanged_X7_forgetWays : GoodIn wsX9_lanesChanged wsX7_forgetWays := goodIn_r _ [6, 7, 31, 32, 33, 34, 35, 36, 37] (by decide +kernel) (by decide +kernel)
set_option maxRecDepth 20000 in
theorem gX9_lanesChanged_X7_forgetWays : GoodIn wsX9_lanesChanged (wsV RX9 352 RX7 yX7_forgetWays wsX7_forgetWays) := goodIn_app (goodIn_of _ (by decide +kernel)) ggX9_lanesChanged_X7_forgetWays
set_option maxRecDepth 20000 in
theorem ggX9_lanesChanged_X9_lampsChanged : GoodIn wsX9_lanesChanged wsX9_lampsChanged := goodIn_r _ [12, 13, 14, 15, 16, 17, 18, 19, 20, 21, 22, 23, 24, 25, 26, 27, 28, 29, 30, 38, 39, 40, 41, 42, 43, 44, 45, 46, 47, 48, 49, 50, 51] (by decide +kernel) (by decide +kernel)
set_option maxRecDepth 20000 in
theorem gX9_lanesChanged_X9_lampsChanged : GoodIn wsX9_lanesChanged (wsV RX9 179 RX9 yX9_lampsChanged wsX9_lampsChanged) := goodIn_app (goodIn_of _ (by decide +kernel)) ggX9_lanesChanged_X9_lampsChanged
theorem dX9_lanesChanged_0 : decode cX9_lanesChanged 0 = .ok (.aload_n 0, 1) := by decide +kernel
theorem dX9_lanesChanged_1 : decode cX9_lanesChanged 1 = .ok (.getfield 23, 3) := by decide +kernel
theorem dX9_lanesChanged_4 : decode cX9_lanesChanged 4 = .ok (.invokevirtual 352, 3) := by decide +kernel
theorem dX9_lanesChanged_7 : decode cX9_lanesChanged 7 = .ok (.aload_n 0, 1) := by decide +kernel
theorem dX9_lanesChanged_8 : decode cX9_lanesChanged 8 = .ok (.invokevirtual 179, 3) := by decide +kernel
theorem dX9_lanesChanged_11 : decode cX9_lanesChanged 11 = .ok (.return_, 1) := by decide +kernel
set_option maxRecDepth 20000 in
theorem ggX9_lampsChanged_X6_empty : GoodIn wsX9_lampsChanged wsX6_empty := goodIn_r _ [7, 8, 30, 31, 32] (by decide +kernel) (by decide +kernel)
set_option maxRecDepth 20000 in
theorem gX9_lampsChanged_X6_empty : GoodIn wsX9_lampsChanged (wsV RX9 267 RX6 yX6_empty wsX6_empty) := goodIn_app (goodIn_of _ (by decide +kernel)) ggX9_lampsChanged_X6_empty
theorem dX9_lampsChanged_0 : decode cX9_lampsChanged 0 = .ok (.aload_n 0, 1) := by decide +kernel
theorem dX9_lampsChanged_1 : decode cX9_lampsChanged 1 = .ok (.getfield 32, 3) := by decide +kernel
theorem dX9_lampsChanged_4 : decode cX9_lampsChanged 4 = .ok (.iconst 0, 1) := by decide +kernel
theorem dX9_lampsChanged_5 : decode cX9_lampsChanged 5 = .ok (.putfield 355, 3) := by decide +kernel
theorem dX9_lampsChanged_8 : decode cX9_lampsChanged 8 = .ok (.aload_n 0, 1) := by decide +kernel
theorem dX9_lampsChanged_9 : decode cX9_lampsChanged 9 = .ok (.getfield 41, 3) := by decide +kernel
theorem dX9_lampsChanged_12 : decode cX9_lampsChanged 12 = .ok (.invokevirtual 267, 3) := by decide +kernel
theorem dX9_lampsChanged_15 : decode cX9_lampsChanged 15 = .ok (.pop, 1) := by decide +kernel
theorem dX9_lampsChanged_16 : decode cX9_lampsChanged 16 = .ok (.return_, 1) := by decide +kernel
set_option maxRecDepth 20000 in
theorem ggX9_beginEmptyCase_X2_survey : GoodIn wsX9_beginEmptyCase wsX2_survey := goodIn_r _ [8, 9, 10, 11, 12, 13, 14, 15, 16, 17, 18, 19, 20, 21, 22, 23, 24, 25, 26, 27, 28, 29, 30, 31, 32, 33, 34, 35, 36, 37, 38, 39, 40, 41, 42, 43, 44, 7, 45, 46, 47, 48, 49, 50, 51, 52, 53, 54, 55, 56, 57, 58, 59, 60, 61, 62, 63, 64, 65, 66, 67, 68, 111, 112, 113, 114, 115, 116, 117, 118, 119, 120, 121, 122, 123, 124, 125, 126, 127, 128] (by decide +kernel) (by decide +kernel)
set_option maxRecDepth 20000 in
theorem gX9_beginEmptyCase_X2_survey : GoodIn wsX9_beginEmptyCase (wsV RX9 189 RX2 yX2_survey wsX2_survey) := goodIn_app (goodIn_of _ (by decide +kernel)) ggX9_beginEmptyCase_X2_survey
set_option maxRecDepth 20000 in
theorem ggX9_beginEmptyCase_X0_startEmpty : GoodIn wsX9_beginEmptyCase wsX0_startEmpty := goodIn_r _ [73, 74, 75, 76, 77, 78, 31, 32, 33, 129, 130, 131, 132, 133, 134] (by decide +kernel) (by decide +kernel)
set_option maxRecDepth 20000 in
theorem gX9_beginEmptyCase_X0_startEmpty : GoodIn wsX9_beginEmptyCase (wsV RX9 358 RX0 yX0_startEmpty wsX0_startEmpty) := goodIn_app (goodIn_of _ (by decide +kernel)) ggX9_beginEmptyCase_X0_startEmpty
set_option maxRecDepth 20000 in
theorem ggX9_beginEmptyCase_X8_rank : GoodIn wsX9_beginEmptyCase wsX8_rank := goodIn_r _ [83, 84, 85, 86, 87, 58, 59, 7, 60, 61, 62, 63, 64, 65, 10, 66, 67, 68, 88, 89, 90, 82, 91, 92, 93, 94, 95, 96, 97, 98, 99, 100, 135, 136, 137, 138, 139, 140, 141, 142, 143, 111, 112, 113, 114, 115, 116, 117, 118, 119, 120, 121] (by decide +kernel) (by decide +kernel)
set_option maxRecDepth 20000 in
theorem gX9_beginEmptyCase_X8_rank : GoodIn wsX9_beginEmptyCase (wsV RX9 361 RX8 yX8_rank wsX8_rank) := goodIn_app (goodIn_of _ (by decide +kernel)) ggX9_beginEmptyCase_X8_rank
theorem dX9_beginEmptyCase_0 : decode cX9_beginEmptyCase 0 = .ok (.aload_n 0, 1) := by decide +kernel
theorem dX9_beginEmptyCase_1 : decode cX9_beginEmptyCase 1 = .ok (.getfield 32, 3) := by decide +kernel
theorem dX9_beginEmptyCase_4 : decode cX9_beginEmptyCase 4 = .ok (.invokevirtual 189, 3) := by decide +kernel
theorem dX9_beginEmptyCase_7 : decode cX9_beginEmptyCase 7 = .ok (.aload_n 0, 1) := by decide +kernel
theorem dX9_beginEmptyCase_8 : decode cX9_beginEmptyCase 8 = .ok (.getfield 55, 3) := by decide +kernel
theorem dX9_beginEmptyCase_11 : decode cX9_beginEmptyCase 11 = .ok (.invokevirtual 358, 3) := by decide +kernel
theorem dX9_beginEmptyCase_14 : decode cX9_beginEmptyCase 14 = .ok (.aload_n 0, 1) := by decide +kernel
theorem dX9_beginEmptyCase_15 : decode cX9_beginEmptyCase 15 = .ok (.getfield 64, 3) := by decide +kernel
theorem dX9_beginEmptyCase_18 : decode cX9_beginEmptyCase 18 = .ok (.invokevirtual 361, 3) := by decide +kernel
theorem dX9_beginEmptyCase_21 : decode cX9_beginEmptyCase 21 = .ok (.return_, 1) := by decide +kernel
set_option maxRecDepth 20000 in
theorem ggX9_growEmptyCase_X9_beginEmptyCase : GoodIn wsX9_growEmptyCase wsX9_beginEmptyCase := goodIn_r _ [6, 7, 8, 1, 9, 10, 11, 12, 13, 14, 15, 16, 17, 18, 19, 20, 21, 22, 23, 24, 25, 26, 27, 28, 29, 30, 31, 32, 33, 34, 35, 36, 37, 38, 39, 40, 41, 42, 43, 44, 45, 46, 47, 48, 49, 50, 51, 52, 53, 54, 55, 56, 57, 58, 59, 60, 61, 62, 63, 64, 65, 66, 67, 68, 69, 70, 71, 5, 72, 73, 74, 75, 76, 77, 78, 79, 80, 81, 82, 83, 84, 85, 86, 87, 88, 89, 90, 91, 92, 93, 94, 95, 96, 97, 98, 99, 100, 101, 102, 103, 104, 167, 168, 169, 170, 171, 172, 173, 174, 175, 176, 177, 178, 179, 180, 181, 182, 183, 184, 185, 186, 187, 188, 189, 190, 191, 192, 193, 194, 195, 196, 197, 198, 199, 200, 201, 202, 203, 204, 205, 206, 207, 208, 209] (by decide +kernel) (by decide +kernel)
set_option maxRecDepth 20000 in
theorem gX9_growEmptyCase_X9_beginEmptyCase : GoodIn wsX9_growEmptyCase (wsV RX9 317 RX9 yX9_beginEmptyCase wsX9_beginEmptyCase) := goodIn_app (goodIn_of _ (by decide +kernel)) ggX9_growEmptyCase_X9_beginEmptyCase
set_option maxRecDepth 20000 in
theorem ggX9_growEmptyCase_X8_grow : GoodIn wsX9_growEmptyCase wsX8_grow := goodIn_r _ [108, 109, 110, 111, 112, 89, 113, 114, 115, 12, 116, 15, 66, 71, 5, 72, 117, 118, 119, 86, 120, 88, 121, 122, 123, 124, 125, 126, 127, 128, 129, 130, 131, 132, 133, 134, 135, 90, 136, 137, 138, 139, 140, 141, 142, 143, 144, 145, 96, 146, 147, 148, 76, 149, 78, 150, 151, 152, 153, 79, 154, 155, 156, 157, 158, 159, 160, 161, 162, 163, 164, 165, 166, 201, 202, 203, 204, 205, 206, 207, 208, 209, 177, 178, 179, 180, 181, 182, 183, 184, 185, 186, 187, 195, 196, 197, 198, 199, 200] (by decide +kernel) (by decide +kernel)
set_option maxRecDepth 20000 in
theorem gX9_growEmptyCase_X8_grow : GoodIn wsX9_growEmptyCase (wsV RX9 306 RX8 yX8_grow wsX8_grow) := goodIn_app (goodIn_of _ (by decide +kernel)) ggX9_growEmptyCase_X8_grow
theorem dX9_growEmptyCase_0 : decode cX9_growEmptyCase 0 = .ok (.aload_n 0, 1) := by decide +kernel
theorem dX9_growEmptyCase_1 : decode cX9_growEmptyCase 1 = .ok (.invokevirtual 317, 3) := by decide +kernel
theorem dX9_growEmptyCase_4 : decode cX9_growEmptyCase 4 = .ok (.aload_n 0, 1) := by decide +kernel
theorem dX9_growEmptyCase_5 : decode cX9_growEmptyCase 5 = .ok (.getfield 64, 3) := by decide +kernel
theorem dX9_growEmptyCase_8 : decode cX9_growEmptyCase 8 = .ok (.invokevirtual 306, 3) := by decide +kernel
theorem dX9_growEmptyCase_11 : decode cX9_growEmptyCase 11 = .ok (.return_, 1) := by decide +kernel
set_option maxRecDepth 20000 in
theorem ggX10_init_X10_work : GoodIn wsX10_init wsX10_work := goodIn_r _ [40, 14, 41, 42, 9, 5, 6, 7, 43, 44, 45, 46, 47, 48, 49, 50, 51, 52, 53, 54, 55, 56, 57, 58, 59, 60, 61, 62, 63, 64, 65, 66, 67, 68, 69, 70, 71, 72, 73, 74, 75, 76, 77, 78] (by decide +kernel) (by decide +kernel)
set_option maxRecDepth 20000 in
theorem gX10_init_X10_work : GoodIn wsX10_init (wsV RX10 99 RX10 yX10_work wsX10_work) := goodIn_app (goodIn_of _ (by decide +kernel)) ggX10_init_X10_work
theorem dX10_init_0 : decode cX10_init 0 = .ok (.aload_n 0, 1) := by decide +kernel
theorem dX10_init_1 : decode cX10_init 1 = .ok (.invokespecial 1, 3) := by decide +kernel
theorem dX10_init_4 : decode cX10_init 4 = .ok (.aload_n 0, 1) := by decide +kernel
theorem dX10_init_5 : decode cX10_init 5 = .ok (.bipush 100, 2) := by decide +kernel
theorem dX10_init_7 : decode cX10_init 7 = .ok (.newarray .int, 2) := by decide +kernel
theorem dX10_init_9 : decode cX10_init 9 = .ok (.putfield 7, 3) := by decide +kernel
theorem dX10_init_12 : decode cX10_init 12 = .ok (.aload_n 0, 1) := by decide +kernel
theorem dX10_init_13 : decode cX10_init 13 = .ok (.bipush 100, 2) := by decide +kernel
theorem dX10_init_15 : decode cX10_init 15 = .ok (.newarray .int, 2) := by decide +kernel
theorem dX10_init_17 : decode cX10_init 17 = .ok (.putfield 13, 3) := by decide +kernel
theorem dX10_init_20 : decode cX10_init 20 = .ok (.aload_n 0, 1) := by decide +kernel
theorem dX10_init_21 : decode cX10_init 21 = .ok (.bipush 100, 2) := by decide +kernel
theorem dX10_init_23 : decode cX10_init 23 = .ok (.newarray .int, 2) := by decide +kernel
theorem dX10_init_25 : decode cX10_init 25 = .ok (.putfield 16, 3) := by decide +kernel
theorem dX10_init_28 : decode cX10_init 28 = .ok (.aload_n 0, 1) := by decide +kernel
theorem dX10_init_29 : decode cX10_init 29 = .ok (.bipush 100, 2) := by decide +kernel
theorem dX10_init_31 : decode cX10_init 31 = .ok (.newarray .boolean, 2) := by decide +kernel
theorem dX10_init_33 : decode cX10_init 33 = .ok (.putfield 19, 3) := by decide +kernel
theorem dX10_init_36 : decode cX10_init 36 = .ok (.aload_n 0, 1) := by decide +kernel
theorem dX10_init_37 : decode cX10_init 37 = .ok (.iconst 4, 1) := by decide +kernel
theorem dX10_init_38 : decode cX10_init 38 = .ok (.newarray .int, 2) := by decide +kernel
theorem dX10_init_40 : decode cX10_init 40 = .ok (.putfield 23, 3) := by decide +kernel
theorem dX10_init_43 : decode cX10_init 43 = .ok (.aload_n 0, 1) := by decide +kernel
theorem dX10_init_44 : decode cX10_init 44 = .ok (.iconst 4, 1) := by decide +kernel
theorem dX10_init_45 : decode cX10_init 45 = .ok (.newarray .int, 2) := by decide +kernel
theorem dX10_init_47 : decode cX10_init 47 = .ok (.putfield 26, 3) := by decide +kernel
theorem dX10_init_50 : decode cX10_init 50 = .ok (.aload_n 0, 1) := by decide +kernel
theorem dX10_init_51 : decode cX10_init 51 = .ok (.sipush 200, 3) := by decide +kernel
theorem dX10_init_54 : decode cX10_init 54 = .ok (.newarray .long, 2) := by decide +kernel
theorem dX10_init_56 : decode cX10_init 56 = .ok (.putfield 29, 3) := by decide +kernel
theorem dX10_init_59 : decode cX10_init 59 = .ok (.aload_n 0, 1) := by decide +kernel
theorem dX10_init_60 : decode cX10_init 60 = .ok (.sipush 1600, 3) := by decide +kernel
theorem dX10_init_63 : decode cX10_init 63 = .ok (.newarray .int, 2) := by decide +kernel
theorem dX10_init_65 : decode cX10_init 65 = .ok (.putfield 33, 3) := by decide +kernel
theorem dX10_init_68 : decode cX10_init 68 = .ok (.aload_n 0, 1) := by decide +kernel
theorem dX10_init_69 : decode cX10_init 69 = .ok (.bipush 12, 2) := by decide +kernel
