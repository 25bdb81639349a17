theorem dX5_extend_66 : decode cX5_extend 66 = .ok (.iload_n 3, 1) := by decide +kernel
theorem dX5_extend_67 : decode cX5_extend 67 = .ok (.aload_n 0, 1) := by decide +kernel
theorem dX5_extend_68 : decode cX5_extend 68 = .ok (.getfield 44, 3) := by decide +kernel
theorem dX5_extend_71 : decode cX5_extend 71 = .ok (.getfield 83, 3) := by decide +kernel
theorem dX5_extend_74 : decode cX5_extend 74 = .ok (.iload 4, 2) := by decide +kernel
theorem dX5_extend_76 : decode cX5_extend 76 = .ok (.aaload, 1) := by decide +kernel
theorem dX5_extend_77 : decode cX5_extend 77 = .ok (.iload 6, 2) := by decide +kernel
theorem dX5_extend_79 : decode cX5_extend 79 = .ok (.iaload, 1) := by decide +kernel
theorem dX5_extend_80 : decode cX5_extend 80 = .ok (.iadd, 1) := by decide +kernel
theorem dX5_extend_81 : decode cX5_extend 81 = .ok (.istore 7, 2) := by decide +kernel
theorem dX5_extend_83 : decode cX5_extend 83 = .ok (.iload 7, 2) := by decide +kernel
theorem dX5_extend_85 : decode cX5_extend 85 = .ok (.aload_n 0, 1) := by decide +kernel
theorem dX5_extend_86 : decode cX5_extend 86 = .ok (.getfield 44, 3) := by decide +kernel
theorem dX5_extend_89 : decode cX5_extend 89 = .ok (.getfield 83, 3) := by decide +kernel
theorem dX5_extend_92 : decode cX5_extend 92 = .ok (.iload 6, 2) := by decide +kernel
theorem dX5_extend_94 : decode cX5_extend 94 = .ok (.aaload, 1) := by decide +kernel
theorem dX5_extend_95 : decode cX5_extend 95 = .ok (.aload_n 0, 1) := by decide +kernel
theorem dX5_extend_96 : decode cX5_extend 96 = .ok (.getfield 23, 3) := by decide +kernel
theorem dX5_extend_99 : decode cX5_extend 99 = .ok (.iconst 0, 1) := by decide +kernel
theorem dX5_extend_100 : decode cX5_extend 100 = .ok (.iaload, 1) := by decide +kernel
theorem dX5_extend_101 : decode cX5_extend 101 = .ok (.iaload, 1) := by decide +kernel
theorem dX5_extend_102 : decode cX5_extend 102 = .ok (.iadd, 1) := by decide +kernel
theorem dX5_extend_103 : decode cX5_extend 103 = .ok (.aload_n 0, 1) := by decide +kernel
theorem dX5_extend_104 : decode cX5_extend 104 = .ok (.getfield 41, 3) := by decide +kernel
theorem dX5_extend_107 : decode cX5_extend 107 = .ok (.if_icmp .ge 26, 3) := by decide +kernel
theorem dX5_extend_110 : decode cX5_extend 110 = .ok (.aload_n 0, 1) := by decide +kernel
theorem dX5_extend_111 : decode cX5_extend 111 = .ok (.getfield 23, 3) := by decide +kernel
theorem dX5_extend_114 : decode cX5_extend 114 = .ok (.iload_n 1, 1) := by decide +kernel
theorem dX5_extend_115 : decode cX5_extend 115 = .ok (.iload 6, 2) := by decide +kernel
theorem dX5_extend_117 : decode cX5_extend 117 = .ok (.iastore, 1) := by decide +kernel
theorem dX5_extend_118 : decode cX5_extend 118 = .ok (.aload_n 0, 1) := by decide +kernel
theorem dX5_extend_119 : decode cX5_extend 119 = .ok (.iload_n 1, 1) := by decide +kernel
theorem dX5_extend_120 : decode cX5_extend 120 = .ok (.iconst 1, 1) := by decide +kernel
theorem dX5_extend_121 : decode cX5_extend 121 = .ok (.iadd, 1) := by decide +kernel
theorem dX5_extend_122 : decode cX5_extend 122 = .ok (.iload_n 2, 1) := by decide +kernel
theorem dX5_extend_123 : decode cX5_extend 123 = .ok (.iconst 1, 1) := by decide +kernel
theorem dX5_extend_124 : decode cX5_extend 124 = .ok (.iload 6, 2) := by decide +kernel
theorem dX5_extend_126 : decode cX5_extend 126 = .ok (.ishl, 1) := by decide +kernel
theorem dX5_extend_127 : decode cX5_extend 127 = .ok (.ior, 1) := by decide +kernel
theorem dX5_extend_128 : decode cX5_extend 128 = .ok (.iload 7, 2) := by decide +kernel
theorem dX5_extend_130 : decode cX5_extend 130 = .ok (.invokevirtual 79, 3) := by decide +kernel
theorem dX5_extend_133 : decode cX5_extend 133 = .ok (.iinc 5 1, 3) := by decide +kernel
theorem dX5_extend_136 : decode cX5_extend 136 = .ok (.goto (-109), 3) := by decide +kernel
theorem dX5_extend_139 : decode cX5_extend 139 = .ok (.return_, 1) := by decide +kernel
set_option maxRecDepth 20000 in
theorem ggX5_mayFollow_X9_isIn : GoodIn wsX5_mayFollow wsX9_isIn := goodIn_r _ [5] (by decide +kernel) (by decide +kernel)
set_option maxRecDepth 20000 in
theorem gX5_mayFollow_X9_isIn_n92 : GoodIn wsX5_mayFollow (wsX9_isIn) := ggX5_mayFollow_X9_isIn
set_option maxRecDepth 20000 in
theorem ggX5_mayFollow_X5_isContent : GoodIn wsX5_mayFollow wsX5_isContent := goodIn_r _ [10, 11, 12, 13, 14, 15, 16, 17, 18, 19, 20, 21] (by decide +kernel) (by decide +kernel)
set_option maxRecDepth 20000 in
theorem gX5_mayFollow_X5_isContent : GoodIn wsX5_mayFollow (wsV RX5 100 RX5 yX5_isContent wsX5_isContent) := goodIn_app (goodIn_of _ (by decide +kernel)) ggX5_mayFollow_X5_isContent
theorem dX5_mayFollow_0 : decode cX5_mayFollow 0 = .ok (.aload_n 0, 1) := by decide +kernel
theorem dX5_mayFollow_1 : decode cX5_mayFollow 1 = .ok (.getfield 17, 3) := by decide +kernel
theorem dX5_mayFollow_4 : decode cX5_mayFollow 4 = .ok (.iload_n 2, 1) := by decide +kernel
theorem dX5_mayFollow_5 : decode cX5_mayFollow 5 = .ok (.iaload, 1) := by decide +kernel
theorem dX5_mayFollow_6 : decode cX5_mayFollow 6 = .ok (.iload_n 3, 1) := by decide +kernel
theorem dX5_mayFollow_7 : decode cX5_mayFollow 7 = .ok (.invokestatic 92, 3) := by decide +kernel
theorem dX5_mayFollow_10 : decode cX5_mayFollow 10 = .ok (.ifCond .eq 5, 3) := by decide +kernel
theorem dX5_mayFollow_13 : decode cX5_mayFollow 13 = .ok (.iconst 0, 1) := by decide +kernel
theorem dX5_mayFollow_14 : decode cX5_mayFollow 14 = .ok (.ireturn, 1) := by decide +kernel
theorem dX5_mayFollow_15 : decode cX5_mayFollow 15 = .ok (.iload_n 1, 1) := by decide +kernel
theorem dX5_mayFollow_16 : decode cX5_mayFollow 16 = .ok (.iconst 2, 1) := by decide +kernel
theorem dX5_mayFollow_17 : decode cX5_mayFollow 17 = .ok (.if_icmp .lt 20, 3) := by decide +kernel
theorem dX5_mayFollow_20 : decode cX5_mayFollow 20 = .ok (.aload_n 0, 1) := by decide +kernel
theorem dX5_mayFollow_21 : decode cX5_mayFollow 21 = .ok (.iload_n 2, 1) := by decide +kernel
theorem dX5_mayFollow_22 : decode cX5_mayFollow 22 = .ok (.aload_n 0, 1) := by decide +kernel
theorem dX5_mayFollow_23 : decode cX5_mayFollow 23 = .ok (.getfield 23, 3) := by decide +kernel
theorem dX5_mayFollow_26 : decode cX5_mayFollow 26 = .ok (.iload_n 1, 1) := by decide +kernel
theorem dX5_mayFollow_27 : decode cX5_mayFollow 27 = .ok (.iconst 2, 1) := by decide +kernel
theorem dX5_mayFollow_28 : decode cX5_mayFollow 28 = .ok (.isub, 1) := by decide +kernel
theorem dX5_mayFollow_29 : decode cX5_mayFollow 29 = .ok (.iaload, 1) := by decide +kernel
theorem dX5_mayFollow_30 : decode cX5_mayFollow 30 = .ok (.iload_n 3, 1) := by decide +kernel
theorem dX5_mayFollow_31 : decode cX5_mayFollow 31 = .ok (.invokevirtual 100, 3) := by decide +kernel
theorem dX5_mayFollow_34 : decode cX5_mayFollow 34 = .ok (.ifCond .eq 7, 3) := by decide +kernel
theorem dX5_mayFollow_37 : decode cX5_mayFollow 37 = .ok (.iconst 1, 1) := by decide +kernel
theorem dX5_mayFollow_38 : decode cX5_mayFollow 38 = .ok (.goto 4, 3) := by decide +kernel
theorem dX5_mayFollow_41 : decode cX5_mayFollow 41 = .ok (.iconst 0, 1) := by decide +kernel
theorem dX5_mayFollow_42 : decode cX5_mayFollow 42 = .ok (.ireturn, 1) := by decide +kernel
theorem dX5_isContent_0 : decode cX5_isContent 0 = .ok (.aload_n 0, 1) := by decide +kernel
theorem dX5_isContent_1 : decode cX5_isContent 1 = .ok (.getfield 11, 3) := by decide +kernel
theorem dX5_isContent_4 : decode cX5_isContent 4 = .ok (.iload_n 1, 1) := by decide +kernel
theorem dX5_isContent_5 : decode cX5_isContent 5 = .ok (.iaload, 1) := by decide +kernel
theorem dX5_isContent_6 : decode cX5_isContent 6 = .ok (.iconst 1, 1) := by decide +kernel
theorem dX5_isContent_7 : decode cX5_isContent 7 = .ok (.iload_n 2, 1) := by decide +kernel
theorem dX5_isContent_8 : decode cX5_isContent 8 = .ok (.ishl, 1) := by decide +kernel
theorem dX5_isContent_9 : decode cX5_isContent 9 = .ok (.iconst 1, 1) := by decide +kernel
theorem dX5_isContent_10 : decode cX5_isContent 10 = .ok (.iload_n 3, 1) := by decide +kernel
theorem dX5_isContent_11 : decode cX5_isContent 11 = .ok (.ishl, 1) := by decide +kernel
theorem dX5_isContent_12 : decode cX5_isContent 12 = .ok (.ior, 1) := by decide +kernel
theorem dX5_isContent_13 : decode cX5_isContent 13 = .ok (.iconst (-1), 1) := by decide +kernel
theorem dX5_isContent_14 : decode cX5_isContent 14 = .ok (.ixor, 1) := by decide +kernel
theorem dX5_isContent_15 : decode cX5_isContent 15 = .ok (.iand, 1) := by decide +kernel
theorem dX5_isContent_16 : decode cX5_isContent 16 = .ok (.ifCond .ne 7, 3) := by decide +kernel
theorem dX5_isContent_19 : decode cX5_isContent 19 = .ok (.iconst 1, 1) := by decide +kernel
theorem dX5_isContent_20 : decode cX5_isContent 20 = .ok (.goto 4, 3) := by decide +kernel
theorem dX5_isContent_23 : decode cX5_isContent 23 = .ok (.iconst 0, 1) := by decide +kernel
theorem dX5_isContent_24 : decode cX5_isContent 24 = .ok (.ireturn, 1) := by decide +kernel
set_option maxRecDepth 20000 in
theorem ggX5_finish_X9_isIn : GoodIn wsX5_finish wsX9_isIn := goodIn_r _ [14] (by decide +kernel) (by decide +kernel)
set_option maxRecDepth 20000 in
theorem gX5_finish_X9_isIn_n92 : GoodIn wsX5_finish (wsX9_isIn) := ggX5_finish_X9_isIn
set_option maxRecDepth 20000 in
theorem ggX5_finish_X5_isContent : GoodIn wsX5_finish wsX5_isContent := goodIn_r _ [19, 20, 26, 27, 28, 29, 30, 31, 32, 33, 34, 35] (by decide +kernel) (by decide +kernel)
set_option maxRecDepth 20000 in
theorem gX5_finish_X5_isContent : GoodIn wsX5_finish (wsV RX5 100 RX5 yX5_isContent wsX5_isContent) := goodIn_app (goodIn_of _ (by decide +kernel)) ggX5_finish_X5_isContent
set_option maxRecDepth 20000 in
theorem ggX5_finish_X5_isShunned : GoodIn wsX5_finish wsX5_isShunned := goodIn_r _ [24, 2, 1, 25, 26, 27, 28, 29, 30, 31, 32, 33, 34, 35] (by decide +kernel) (by decide +kernel)
set_option maxRecDepth 20000 in
theorem gX5_finish_X5_isShunned : GoodIn wsX5_finish (wsV RX5 103 RX5 yX5_isShunned wsX5_isShunned) := goodIn_app (goodIn_of _ (by decide +kernel)) ggX5_finish_X5_isShunned
theorem dX5_finish_0 : decode cX5_finish 0 = .ok (.aload_n 0, 1) := by decide +kernel
theorem dX5_finish_1 : decode cX5_finish 1 = .ok (.getfield 23, 3) := by decide +kernel
theorem dX5_finish_4 : decode cX5_finish 4 = .ok (.iconst 0, 1) := by decide +kernel
theorem dX5_finish_5 : decode cX5_finish 5 = .ok (.iaload, 1) := by decide +kernel
theorem dX5_finish_6 : decode cX5_finish 6 = .ok (.istore_n 2, 1) := by decide +kernel
theorem dX5_finish_7 : decode cX5_finish 7 = .ok (.aload_n 0, 1) := by decide +kernel
theorem dX5_finish_8 : decode cX5_finish 8 = .ok (.getfield 23, 3) := by decide +kernel
theorem dX5_finish_11 : decode cX5_finish 11 = .ok (.aload_n 0, 1) := by decide +kernel
theorem dX5_finish_12 : decode cX5_finish 12 = .ok (.getfield 36, 3) := by decide +kernel
theorem dX5_finish_15 : decode cX5_finish 15 = .ok (.iconst 1, 1) := by decide +kernel
theorem dX5_finish_16 : decode cX5_finish 16 = .ok (.isub, 1) := by decide +kernel
theorem dX5_finish_17 : decode cX5_finish 17 = .ok (.iaload, 1) := by decide +kernel
theorem dX5_finish_18 : decode cX5_finish 18 = .ok (.istore_n 3, 1) := by decide +kernel
theorem dX5_finish_19 : decode cX5_finish 19 = .ok (.iload_n 1, 1) := by decide +kernel
theorem dX5_finish_20 : decode cX5_finish 20 = .ok (.aload_n 0, 1) := by decide +kernel
theorem dX5_finish_21 : decode cX5_finish 21 = .ok (.getfield 44, 3) := by decide +kernel
theorem dX5_finish_24 : decode cX5_finish 24 = .ok (.getfield 83, 3) := by decide +kernel
theorem dX5_finish_27 : decode cX5_finish 27 = .ok (.iload_n 3, 1) := by decide +kernel
theorem dX5_finish_28 : decode cX5_finish 28 = .ok (.aaload, 1) := by decide +kernel
theorem dX5_finish_29 : decode cX5_finish 29 = .ok (.iload_n 2, 1) := by decide +kernel
theorem dX5_finish_30 : decode cX5_finish 30 = .ok (.iaload, 1) := by decide +kernel
theorem dX5_finish_31 : decode cX5_finish 31 = .ok (.iadd, 1) := by decide +kernel
theorem dX5_finish_32 : decode cX5_finish 32 = .ok (.istore 4, 2) := by decide +kernel
theorem dX5_finish_34 : decode cX5_finish 34 = .ok (.iload 4, 2) := by decide +kernel
theorem dX5_finish_36 : decode cX5_finish 36 = .ok (.aload_n 0, 1) := by decide +kernel
theorem dX5_finish_37 : decode cX5_finish 37 = .ok (.getfield 41, 3) := by decide +kernel
theorem dX5_finish_40 : decode cX5_finish 40 = .ok (.if_icmp .ge 75, 3) := by decide +kernel
theorem dX5_finish_43 : decode cX5_finish 43 = .ok (.iload_n 3, 1) := by decide +kernel
theorem dX5_finish_44 : decode cX5_finish 44 = .ok (.aload_n 0, 1) := by decide +kernel
theorem dX5_finish_45 : decode cX5_finish 45 = .ok (.getfield 23, 3) := by decide +kernel
theorem dX5_finish_48 : decode cX5_finish 48 = .ok (.iconst 1, 1) := by decide +kernel
theorem dX5_finish_49 : decode cX5_finish 49 = .ok (.iaload, 1) := by decide +kernel
theorem dX5_finish_50 : decode cX5_finish 50 = .ok (.if_icmp .lt 65, 3) := by decide +kernel
theorem dX5_finish_53 : decode cX5_finish 53 = .ok (.aload_n 0, 1) := by decide +kernel
theorem dX5_finish_54 : decode cX5_finish 54 = .ok (.getfield 17, 3) := by decide +kernel
theorem dX5_finish_57 : decode cX5_finish 57 = .ok (.iload_n 3, 1) := by decide +kernel
theorem dX5_finish_58 : decode cX5_finish 58 = .ok (.iaload, 1) := by decide +kernel
theorem dX5_finish_59 : decode cX5_finish 59 = .ok (.iload_n 2, 1) := by decide +kernel
theorem dX5_finish_60 : decode cX5_finish 60 = .ok (.invokestatic 92, 3) := by decide +kernel
theorem dX5_finish_63 : decode cX5_finish 63 = .ok (.ifCond .ne 52, 3) := by decide +kernel
theorem dX5_finish_66 : decode cX5_finish 66 = .ok (.aload_n 0, 1) := by decide +kernel
theorem dX5_finish_67 : decode cX5_finish 67 = .ok (.iload_n 3, 1) := by decide +kernel
theorem dX5_finish_68 : decode cX5_finish 68 = .ok (.aload_n 0, 1) := by decide +kernel
theorem dX5_finish_69 : decode cX5_finish 69 = .ok (.getfield 23, 3) := by decide +kernel
theorem dX5_finish_72 : decode cX5_finish 72 = .ok (.aload_n 0, 1) := by decide +kernel
theorem dX5_finish_73 : decode cX5_finish 73 = .ok (.getfield 36, 3) := by decide +kernel
theorem dX5_finish_76 : decode cX5_finish 76 = .ok (.iconst 2, 1) := by decide +kernel
theorem dX5_finish_77 : decode cX5_finish 77 = .ok (.isub, 1) := by decide +kernel
theorem dX5_finish_78 : decode cX5_finish 78 = .ok (.iaload, 1) := by decide +kernel
theorem dX5_finish_79 : decode cX5_finish 79 = .ok (.iload_n 2, 1) := by decide +kernel
theorem dX5_finish_80 : decode cX5_finish 80 = .ok (.invokevirtual 100, 3) := by decide +kernel
theorem dX5_finish_83 : decode cX5_finish 83 = .ok (.ifCond .eq 32, 3) := by decide +kernel
theorem dX5_finish_86 : decode cX5_finish 86 = .ok (.aload_n 0, 1) := by decide +kernel
theorem dX5_finish_87 : decode cX5_finish 87 = .ok (.iload_n 2, 1) := by decide +kernel
theorem dX5_finish_88 : decode cX5_finish 88 = .ok (.iload_n 3, 1) := by decide +kernel
theorem dX5_finish_89 : decode cX5_finish 89 = .ok (.aload_n 0, 1) := by decide +kernel
theorem dX5_finish_90 : decode cX5_finish 90 = .ok (.getfield 23, 3) := by decide +kernel
theorem dX5_finish_93 : decode cX5_finish 93 = .ok (.iconst 1, 1) := by decide +kernel
theorem dX5_finish_94 : decode cX5_finish 94 = .ok (.iaload, 1) := by decide +kernel
theorem dX5_finish_95 : decode cX5_finish 95 = .ok (.invokevirtual 100, 3) := by decide +kernel
theorem dX5_finish_98 : decode cX5_finish 98 = .ok (.ifCond .eq 17, 3) := by decide +kernel
theorem dX5_finish_101 : decode cX5_finish 101 = .ok (.aload_n 0, 1) := by decide +kernel
theorem dX5_finish_102 : decode cX5_finish 102 = .ok (.getfield 32, 3) := by decide +kernel
theorem dX5_finish_105 : decode cX5_finish 105 = .ok (.ifCond .eq 11, 3) := by decide +kernel
theorem dX5_finish_108 : decode cX5_finish 108 = .ok (.aload_n 0, 1) := by decide +kernel
theorem dX5_finish_109 : decode cX5_finish 109 = .ok (.invokevirtual 103, 3) := by decide +kernel
theorem dX5_finish_112 : decode cX5_finish 112 = .ok (.ifCond .eq 4, 3) := by decide +kernel
theorem dX5_finish_115 : decode cX5_finish 115 = .ok (.return_, 1) := by decide +kernel
theorem dX5_finish_116 : decode cX5_finish 116 = .ok (.aload_n 0, 1) := by decide +kernel
theorem dX5_finish_117 : decode cX5_finish 117 = .ok (.iload 4, 2) := by decide +kernel
theorem dX5_finish_119 : decode cX5_finish 119 = .ok (.putfield 41, 3) := by decide +kernel
theorem dX5_finish_122 : decode cX5_finish 122 = .ok (.aload_n 0, 1) := by decide +kernel
theorem dX5_finish_123 : decode cX5_finish 123 = .ok (.getfield 23, 3) := by decide +kernel
theorem dX5_finish_126 : decode cX5_finish 126 = .ok (.iconst 0, 1) := by decide +kernel
theorem dX5_finish_127 : decode cX5_finish 127 = .ok (.aload_n 0, 1) := by decide +kernel
theorem dX5_finish_128 : decode cX5_finish 128 = .ok (.getfield 26, 3) := by decide +kernel
theorem dX5_finish_131 : decode cX5_finish 131 = .ok (.iconst 0, 1) := by decide +kernel
theorem dX5_finish_132 : decode cX5_finish 132 = .ok (.aload_n 0, 1) := by decide +kernel
theorem dX5_finish_133 : decode cX5_finish 133 = .ok (.getfield 36, 3) := by decide +kernel
theorem dX5_finish_136 : decode cX5_finish 136 = .ok (.invokestatic 56, 3) := by decide +kernel
theorem dX5_finish_139 : decode cX5_finish 139 = .ok (.return_, 1) := by decide +kernel
theorem dX5_isShunned_0 : decode cX5_isShunned 0 = .ok (.iconst 0, 1) := by decide +kernel
theorem dX5_isShunned_1 : decode cX5_isShunned 1 = .ok (.istore_n 1, 1) := by decide +kernel
theorem dX5_isShunned_2 : decode cX5_isShunned 2 = .ok (.iload_n 1, 1) := by decide +kernel
theorem dX5_isShunned_3 : decode cX5_isShunned 3 = .ok (.aload_n 0, 1) := by decide +kernel
theorem dX5_isShunned_4 : decode cX5_isShunned 4 = .ok (.getfield 36, 3) := by decide +kernel
theorem dX5_isShunned_7 : decode cX5_isShunned 7 = .ok (.if_icmp .ge 26, 3) := by decide +kernel
theorem dX5_isShunned_10 : decode cX5_isShunned 10 = .ok (.aload_n 0, 1) := by decide +kernel
theorem dX5_isShunned_11 : decode cX5_isShunned 11 = .ok (.getfield 23, 3) := by decide +kernel
theorem dX5_isShunned_14 : decode cX5_isShunned 14 = .ok (.iload_n 1, 1) := by decide +kernel
theorem dX5_isShunned_15 : decode cX5_isShunned 15 = .ok (.iaload, 1) := by decide +kernel
theorem dX5_isShunned_16 : decode cX5_isShunned 16 = .ok (.aload_n 0, 1) := by decide +kernel
theorem dX5_isShunned_17 : decode cX5_isShunned 17 = .ok (.getfield 29, 3) := by decide +kernel
theorem dX5_isShunned_20 : decode cX5_isShunned 20 = .ok (.iload_n 1, 1) := by decide +kernel
theorem dX5_isShunned_21 : decode cX5_isShunned 21 = .ok (.iaload, 1) := by decide +kernel
theorem dX5_isShunned_22 : decode cX5_isShunned 22 = .ok (.if_icmp .eq 5, 3) := by decide +kernel
theorem dX5_isShunned_25 : decode cX5_isShunned 25 = .ok (.iconst 0, 1) := by decide +kernel
theorem dX5_isShunned_26 : decode cX5_isShunned 26 = .ok (.ireturn, 1) := by decide +kernel
theorem dX5_isShunned_27 : decode cX5_isShunned 27 = .ok (.iinc 1 1, 3) := by decide +kernel
theorem dX5_isShunned_30 : decode cX5_isShunned 30 = .ok (.goto (-28), 3) := by decide +kernel
theorem dX5_isShunned_33 : decode cX5_isShunned 33 = .ok (.iconst 1, 1) := by decide +kernel
theorem dX5_isShunned_34 : decode cX5_isShunned 34 = .ok (.ireturn, 1) := by decide +kernel
theorem dX6_init_0 : decode cX6_init 0 = .ok (.aload_n 0, 1) := by decide +kernel
theorem dX6_init_1 : decode cX6_init 1 = .ok (.invokespecial 3, 3) := by decide +kernel
theorem dX6_init_4 : decode cX6_init 4 = .ok (.aload_n 0, 1) := by decide +kernel
theorem dX6_init_5 : decode cX6_init 5 = .ok (.bipush 12, 2) := by decide +kernel
theorem dX6_init_7 : decode cX6_init 7 = .ok (.newarray .int, 2) := by decide +kernel
theorem dX6_init_9 : decode cX6_init 9 = .ok (.putfield 9, 3) := by decide +kernel
theorem dX6_init_12 : decode cX6_init 12 = .ok (.aload_n 0, 1) := by decide +kernel
theorem dX6_init_13 : decode cX6_init 13 = .ok (.iconst 0, 1) := by decide +kernel
theorem dX6_init_14 : decode cX6_init 14 = .ok (.putfield 15, 3) := by decide +kernel
theorem dX6_init_17 : decode cX6_init 17 = .ok (.aload_n 0, 1) := by decide +kernel
theorem dX6_init_18 : decode cX6_init 18 = .ok (.aload_n 1, 1) := by decide +kernel
theorem dX6_init_19 : decode cX6_init 19 = .ok (.putfield 19, 3) := by decide +kernel
theorem dX6_init_22 : decode cX6_init 22 = .ok (.return_, 1) := by decide +kernel
set_option maxRecDepth 20000 in
theorem ggX6_isWhole_X2_liveCount : GoodIn wsX6_isWhole wsX2_liveCount := goodIn_r _ [7, 8, 9, 10, 11, 12, 13, 14, 15, 19, 20, 21, 22, 23, 24, 25, 26, 27, 28, 29] (by decide +kernel) (by decide +kernel)
set_option maxRecDepth 20000 in
theorem gX6_isWhole_X2_liveCount : GoodIn wsX6_isWhole (wsV RX6 23 RX2 yX2_liveCount wsX2_liveCount) := goodIn_app (goodIn_of _ (by decide +kernel)) ggX6_isWhole_X2_liveCount
theorem dX6_isWhole_0 : decode cX6_isWhole 0 = .ok (.aload_n 0, 1) := by decide +kernel
theorem dX6_isWhole_1 : decode cX6_isWhole 1 = .ok (.getfield 15, 3) := by decide +kernel
theorem dX6_isWhole_4 : decode cX6_isWhole 4 = .ok (.iconst 3, 1) := by decide +kernel
theorem dX6_isWhole_5 : decode cX6_isWhole 5 = .ok (.if_icmp .lt 21, 3) := by decide +kernel
theorem dX6_isWhole_8 : decode cX6_isWhole 8 = .ok (.aload_n 0, 1) := by decide +kernel
theorem dX6_isWhole_9 : decode cX6_isWhole 9 = .ok (.getfield 15, 3) := by decide +kernel
theorem dX6_isWhole_12 : decode cX6_isWhole 12 = .ok (.aload_n 0, 1) := by decide +kernel
theorem dX6_isWhole_13 : decode cX6_isWhole 13 = .ok (.getfield 19, 3) := by decide +kernel
theorem dX6_isWhole_16 : decode cX6_isWhole 16 = .ok (.invokevirtual 23, 3) := by decide +kernel
theorem dX6_isWhole_19 : decode cX6_isWhole 19 = .ok (.if_icmp .ne 7, 3) := by decide +kernel
theorem dX6_isWhole_22 : decode cX6_isWhole 22 = .ok (.iconst 1, 1) := by decide +kernel
theorem dX6_isWhole_23 : decode cX6_isWhole 23 = .ok (.goto 4, 3) := by decide +kernel
theorem dX6_isWhole_26 : decode cX6_isWhole 26 = .ok (.iconst 0, 1) := by decide +kernel
theorem dX6_isWhole_27 : decode cX6_isWhole 27 = .ok (.ireturn, 1) := by decide +kernel
theorem dX6_holds_0 : decode cX6_holds 0 = .ok (.iconst 0, 1) := by decide +kernel
theorem dX6_holds_1 : decode cX6_holds 1 = .ok (.istore_n 2, 1) := by decide +kernel
theorem dX6_holds_2 : decode cX6_holds 2 = .ok (.iload_n 2, 1) := by decide +kernel
theorem dX6_holds_3 : decode cX6_holds 3 = .ok (.aload_n 0, 1) := by decide +kernel
theorem dX6_holds_4 : decode cX6_holds 4 = .ok (.getfield 15, 3) := by decide +kernel
theorem dX6_holds_7 : decode cX6_holds 7 = .ok (.if_icmp .ge 21, 3) := by decide +kernel
theorem dX6_holds_10 : decode cX6_holds 10 = .ok (.aload_n 0, 1) := by decide +kernel
theorem dX6_holds_11 : decode cX6_holds 11 = .ok (.getfield 9, 3) := by decide +kernel
theorem dX6_holds_14 : decode cX6_holds 14 = .ok (.iload_n 2, 1) := by decide +kernel
theorem dX6_holds_15 : decode cX6_holds 15 = .ok (.iaload, 1) := by decide +kernel
theorem dX6_holds_16 : decode cX6_holds 16 = .ok (.iload_n 1, 1) := by decide +kernel
theorem dX6_holds_17 : decode cX6_holds 17 = .ok (.if_icmp .ne 5, 3) := by decide +kernel
theorem dX6_holds_20 : decode cX6_holds 20 = .ok (.iconst 1, 1) := by decide +kernel
theorem dX6_holds_21 : decode cX6_holds 21 = .ok (.ireturn, 1) := by decide +kernel
theorem dX6_holds_22 : decode cX6_holds 22 = .ok (.iinc 2 1, 3) := by decide +kernel
theorem dX6_holds_25 : decode cX6_holds 25 = .ok (.goto (-23), 3) := by decide +kernel
theorem dX6_holds_28 : decode cX6_holds 28 = .ok (.iconst 0, 1) := by decide +kernel
theorem dX6_holds_29 : decode cX6_holds 29 = .ok (.ireturn, 1) := by decide +kernel
theorem dX6_append_0 : decode cX6_append 0 = .ok (.aload_n 0, 1) := by decide +kernel
theorem dX6_append_1 : decode cX6_append 1 = .ok (.getfield 15, 3) := by decide +kernel
theorem dX6_append_4 : decode cX6_append 4 = .ok (.bipush 12, 2) := by decide +kernel
theorem dX6_append_6 : decode cX6_append 6 = .ok (.if_icmp .ge 23, 3) := by decide +kernel
theorem dX6_append_9 : decode cX6_append 9 = .ok (.aload_n 0, 1) := by decide +kernel
theorem dX6_append_10 : decode cX6_append 10 = .ok (.getfield 9, 3) := by decide +kernel
theorem dX6_append_13 : decode cX6_append 13 = .ok (.aload_n 0, 1) := by decide +kernel
theorem dX6_append_14 : decode cX6_append 14 = .ok (.getfield 15, 3) := by decide +kernel
theorem dX6_append_17 : decode cX6_append 17 = .ok (.iload_n 1, 1) := by decide +kernel
theorem dX6_append_18 : decode cX6_append 18 = .ok (.iastore, 1) := by decide +kernel
theorem dX6_append_19 : decode cX6_append 19 = .ok (.aload_n 0, 1) := by decide +kernel
theorem dX6_append_20 : decode cX6_append 20 = .ok (.dup, 1) := by decide +kernel
theorem dX6_append_21 : decode cX6_append 21 = .ok (.getfield 15, 3) := by decide +kernel
theorem dX6_append_24 : decode cX6_append 24 = .ok (.iconst 1, 1) := by decide +kernel
theorem dX6_append_25 : decode cX6_append 25 = .ok (.iadd, 1) := by decide +kernel
theorem dX6_append_26 : decode cX6_append 26 = .ok (.putfield 15, 3) := by decide +kernel
theorem dX6_append_29 : decode cX6_append 29 = .ok (.aload_n 0, 1) := by decide +kernel
theorem dX6_append_30 : decode cX6_append 30 = .ok (.getfield 15, 3) := by decide +kernel
theorem dX6_append_33 : decode cX6_append 33 = .ok (.ireturn, 1) := by decide +kernel
theorem dX6_empty_0 : decode cX6_empty 0 = .ok (.aload_n 0, 1) := by decide +kernel
theorem dX6_empty_1 : decode cX6_empty 1 = .ok (.getfield 15, 3) := by decide +kernel
theorem dX6_empty_4 : decode cX6_empty 4 = .ok (.istore_n 1, 1) := by decide +kernel
theorem dX6_empty_5 : decode cX6_empty 5 = .ok (.aload_n 0, 1) := by decide +kernel
theorem dX6_empty_6 : decode cX6_empty 6 = .ok (.iconst 0, 1) := by decide +kernel
theorem dX6_empty_7 : decode cX6_empty 7 = .ok (.putfield 15, 3) := by decide +kernel
theorem dX6_empty_10 : decode cX6_empty 10 = .ok (.iload_n 1, 1) := by decide +kernel
theorem dX6_empty_11 : decode cX6_empty 11 = .ok (.ireturn, 1) := by decide +kernel
theorem dX6_copyFrom_0 : decode cX6_copyFrom 0 = .ok (.aload_n 1, 1) := by decide +kernel
theorem dX6_copyFrom_1 : decode cX6_copyFrom 1 = .ok (.iconst 0, 1) := by decide +kernel
theorem dX6_copyFrom_2 : decode cX6_copyFrom 2 = .ok (.aload_n 0, 1) := by decide +kernel
theorem dX6_copyFrom_3 : decode cX6_copyFrom 3 = .ok (.getfield 9, 3) := by decide +kernel
theorem dX6_copyFrom_6 : decode cX6_copyFrom 6 = .ok (.iconst 0, 1) := by decide +kernel
theorem dX6_copyFrom_7 : decode cX6_copyFrom 7 = .ok (.iload_n 2, 1) := by decide +kernel
theorem dX6_copyFrom_8 : decode cX6_copyFrom 8 = .ok (.invokestatic 29, 3) := by decide +kernel
theorem dX6_copyFrom_11 : decode cX6_copyFrom 11 = .ok (.aload_n 0, 1) := by decide +kernel
theorem dX6_copyFrom_12 : decode cX6_copyFrom 12 = .ok (.iload_n 2, 1) := by decide +kernel
theorem dX6_copyFrom_13 : decode cX6_copyFrom 13 = .ok (.putfield 15, 3) := by decide +kernel
theorem dX6_copyFrom_16 : decode cX6_copyFrom 16 = .ok (.return_, 1) := by decide +kernel
set_option maxRecDepth 20000 in
theorem ggX6_measure_X2_survey : GoodIn wsX6_measure wsX2_survey := goodIn_r _ [8, 9, 10, 11, 12, 13, 14, 15, 16, 17, 18, 19, 20, 21, 22, 23, 24, 25, 26, 27, 28, 29, 30, 31, 32, 33, 34, 35, 36, 37, 38, 39, 40, 41, 42, 43, 44, 7, 45, 46, 47, 48, 49, 50, 51, 52, 53, 54, 55, 56, 57, 58, 59, 60, 61, 62, 63, 64, 65, 66, 67, 68, 77, 78, 79, 80, 81, 82, 83, 84, 85, 86, 87, 88, 89, 90, 91, 92, 93, 94] (by decide +kernel) (by decide +kernel)
set_option maxRecDepth 20000 in
theorem gX6_measure_X2_survey : GoodIn wsX6_measure (wsV RX6 35 RX2 yX2_survey wsX2_survey) := goodIn_app (goodIn_of _ (by decide +kernel)) ggX6_measure_X2_survey
set_option maxRecDepth 20000 in
theorem ggX6_measure_X6_after : GoodIn wsX6_measure wsX6_after := goodIn_r _ [73, 2, 74, 75, 76] (by decide +kernel) (by decide +kernel)
set_option maxRecDepth 20000 in
theorem gX6_measure_X6_after : GoodIn wsX6_measure (wsV RX6 42 RX6 yX6_after wsX6_after) := goodIn_app (goodIn_of _ (by decide +kernel)) ggX6_measure_X6_after
theorem dX6_measure_0 : decode cX6_measure 0 = .ok (.aload_n 0, 1) := by decide +kernel
theorem dX6_measure_1 : decode cX6_measure 1 = .ok (.getfield 19, 3) := by decide +kernel
theorem dX6_measure_4 : decode cX6_measure 4 = .ok (.invokevirtual 35, 3) := by decide +kernel
theorem dX6_measure_7 : decode cX6_measure 7 = .ok (.iconst 0, 1) := by decide +kernel
theorem dX6_measure_8 : decode cX6_measure 8 = .ok (.istore_n 1, 1) := by decide +kernel
theorem dX6_measure_9 : decode cX6_measure 9 = .ok (.iconst 0, 1) := by decide +kernel
theorem dX6_measure_10 : decode cX6_measure 10 = .ok (.istore_n 2, 1) := by decide +kernel
theorem dX6_measure_11 : decode cX6_measure 11 = .ok (.iload_n 2, 1) := by decide +kernel
theorem dX6_measure_12 : decode cX6_measure 12 = .ok (.aload_n 0, 1) := by decide +kernel
theorem dX6_measure_13 : decode cX6_measure 13 = .ok (.getfield 15, 3) := by decide +kernel
theorem dX6_measure_16 : decode cX6_measure 16 = .ok (.if_icmp .ge 37, 3) := by decide +kernel
theorem dX6_measure_19 : decode cX6_measure 19 = .ok (.iload_n 1, 1) := by decide +kernel
theorem dX6_measure_20 : decode cX6_measure 20 = .ok (.aload_n 0, 1) := by decide +kernel
theorem dX6_measure_21 : decode cX6_measure 21 = .ok (.getfield 19, 3) := by decide +kernel
theorem dX6_measure_24 : decode cX6_measure 24 = .ok (.getfield 38, 3) := by decide +kernel
theorem dX6_measure_27 : decode cX6_measure 27 = .ok (.aload_n 0, 1) := by decide +kernel
theorem dX6_measure_28 : decode cX6_measure 28 = .ok (.getfield 9, 3) := by decide +kernel
theorem dX6_measure_31 : decode cX6_measure 31 = .ok (.iload_n 2, 1) := by decide +kernel
theorem dX6_measure_32 : decode cX6_measure 32 = .ok (.iaload, 1) := by decide +kernel
theorem dX6_measure_33 : decode cX6_measure 33 = .ok (.aaload, 1) := by decide +kernel
theorem dX6_measure_34 : decode cX6_measure 34 = .ok (.aload_n 0, 1) := by decide +kernel
theorem dX6_measure_35 : decode cX6_measure 35 = .ok (.getfield 9, 3) := by decide +kernel
theorem dX6_measure_38 : decode cX6_measure 38 = .ok (.aload_n 0, 1) := by decide +kernel
theorem dX6_measure_39 : decode cX6_measure 39 = .ok (.iload_n 2, 1) := by decide +kernel
theorem dX6_measure_40 : decode cX6_measure 40 = .ok (.invokevirtual 42, 3) := by decide +kernel
theorem dX6_measure_43 : decode cX6_measure 43 = .ok (.iaload, 1) := by decide +kernel
theorem dX6_measure_44 : decode cX6_measure 44 = .ok (.iaload, 1) := by decide +kernel
theorem dX6_measure_45 : decode cX6_measure 45 = .ok (.iadd, 1) := by decide +kernel
theorem dX6_measure_46 : decode cX6_measure 46 = .ok (.istore_n 1, 1) := by decide +kernel
theorem dX6_measure_47 : decode cX6_measure 47 = .ok (.iinc 2 1, 3) := by decide +kernel
theorem dX6_measure_50 : decode cX6_measure 50 = .ok (.goto (-39), 3) := by decide +kernel
theorem dX6_measure_53 : decode cX6_measure 53 = .ok (.iload_n 1, 1) := by decide +kernel
theorem dX6_measure_54 : decode cX6_measure 54 = .ok (.ireturn, 1) := by decide +kernel
set_option maxRecDepth 20000 in
theorem ggX6_keepsTwins_X2_survey : GoodIn wsX6_keepsTwins wsX2_survey := goodIn_r _ [8, 9, 10, 11, 12, 13, 14, 15, 16, 17, 18, 19, 20, 21, 22, 23, 24, 25, 26, 27, 28, 29, 30, 31, 32, 33, 34, 35, 36, 37, 38, 39, 40, 41, 42, 43, 44, 7, 45, 46, 47, 48, 49, 50, 51, 52, 53, 54, 55, 56, 57, 58, 59, 60, 61, 62, 63, 64, 65, 66, 67, 68, 81, 82, 83, 84, 85, 86, 87, 88, 89, 90, 91, 92, 93, 94, 95, 96, 97, 98] (by decide +kernel) (by decide +kernel)
set_option maxRecDepth 20000 in
theorem gX6_keepsTwins_X2_survey : GoodIn wsX6_keepsTwins (wsV RX6 35 RX2 yX2_survey wsX2_survey) := goodIn_app (goodIn_of _ (by decide +kernel)) ggX6_keepsTwins_X2_survey
set_option maxRecDepth 20000 in
theorem ggX6_keepsTwins_X6_before : GoodIn wsX6_keepsTwins wsX6_before := goodIn_r _ [73, 2, 78, 79, 80] (by decide +kernel) (by decide +kernel)
set_option maxRecDepth 20000 in
theorem gX6_keepsTwins_X6_before : GoodIn wsX6_keepsTwins (wsV RX6 46 RX6 yX6_before wsX6_before) := goodIn_app (goodIn_of _ (by decide +kernel)) ggX6_keepsTwins_X6_before
set_option maxRecDepth 20000 in
theorem ggX6_keepsTwins_X6_after : GoodIn wsX6_keepsTwins wsX6_after := goodIn_r _ [77, 2, 78, 79, 80] (by decide +kernel) (by decide +kernel)
set_option maxRecDepth 20000 in
theorem gX6_keepsTwins_X6_after : GoodIn wsX6_keepsTwins (wsV RX6 42 RX6 yX6_after wsX6_after) := goodIn_app (goodIn_of _ (by decide +kernel)) ggX6_keepsTwins_X6_after
theorem dX6_keepsTwins_0 : decode cX6_keepsTwins 0 = .ok (.aload_n 0, 1) := by decide +kernel
theorem dX6_keepsTwins_1 : decode cX6_keepsTwins 1 = .ok (.getfield 19, 3) := by decide +kernel
theorem dX6_keepsTwins_4 : decode cX6_keepsTwins 4 = .ok (.invokevirtual 35, 3) := by decide +kernel
theorem dX6_keepsTwins_7 : decode cX6_keepsTwins 7 = .ok (.iconst 0, 1) := by decide +kernel
theorem dX6_keepsTwins_8 : decode cX6_keepsTwins 8 = .ok (.istore_n 1, 1) := by decide +kernel
theorem dX6_keepsTwins_9 : decode cX6_keepsTwins 9 = .ok (.iload_n 1, 1) := by decide +kernel
theorem dX6_keepsTwins_10 : decode cX6_keepsTwins 10 = .ok (.aload_n 0, 1) := by decide +kernel
theorem dX6_keepsTwins_11 : decode cX6_keepsTwins 11 = .ok (.getfield 15, 3) := by decide +kernel
theorem dX6_keepsTwins_14 : decode cX6_keepsTwins 14 = .ok (.if_icmp .ge 58, 3) := by decide +kernel
theorem dX6_keepsTwins_17 : decode cX6_keepsTwins 17 = .ok (.iconst 1, 1) := by decide +kernel
theorem dX6_keepsTwins_18 : decode cX6_keepsTwins 18 = .ok (.aload_n 0, 1) := by decide +kernel
theorem dX6_keepsTwins_19 : decode cX6_keepsTwins 19 = .ok (.getfield 9, 3) := by decide +kernel
theorem dX6_keepsTwins_22 : decode cX6_keepsTwins 22 = .ok (.aload_n 0, 1) := by decide +kernel
theorem dX6_keepsTwins_23 : decode cX6_keepsTwins 23 = .ok (.iload_n 1, 1) := by decide +kernel
theorem dX6_keepsTwins_24 : decode cX6_keepsTwins 24 = .ok (.invokevirtual 46, 3) := by decide +kernel
theorem dX6_keepsTwins_27 : decode cX6_keepsTwins 27 = .ok (.iaload, 1) := by decide +kernel
theorem dX6_keepsTwins_28 : decode cX6_keepsTwins 28 = .ok (.ishl, 1) := by decide +kernel
theorem dX6_keepsTwins_29 : decode cX6_keepsTwins 29 = .ok (.iconst 1, 1) := by decide +kernel
theorem dX6_keepsTwins_30 : decode cX6_keepsTwins 30 = .ok (.aload_n 0, 1) := by decide +kernel
theorem dX6_keepsTwins_31 : decode cX6_keepsTwins 31 = .ok (.getfield 9, 3) := by decide +kernel
theorem dX6_keepsTwins_34 : decode cX6_keepsTwins 34 = .ok (.aload_n 0, 1) := by decide +kernel
theorem dX6_keepsTwins_35 : decode cX6_keepsTwins 35 = .ok (.iload_n 1, 1) := by decide +kernel
theorem dX6_keepsTwins_36 : decode cX6_keepsTwins 36 = .ok (.invokevirtual 42, 3) := by decide +kernel
theorem dX6_keepsTwins_39 : decode cX6_keepsTwins 39 = .ok (.iaload, 1) := by decide +kernel
theorem dX6_keepsTwins_40 : decode cX6_keepsTwins 40 = .ok (.ishl, 1) := by decide +kernel
theorem dX6_keepsTwins_41 : decode cX6_keepsTwins 41 = .ok (.ior, 1) := by decide +kernel
theorem dX6_keepsTwins_42 : decode cX6_keepsTwins 42 = .ok (.istore_n 2, 1) := by decide +kernel
theorem dX6_keepsTwins_43 : decode cX6_keepsTwins 43 = .ok (.aload_n 0, 1) := by decide +kernel
theorem dX6_keepsTwins_44 : decode cX6_keepsTwins 44 = .ok (.getfield 19, 3) := by decide +kernel
theorem dX6_keepsTwins_47 : decode cX6_keepsTwins 47 = .ok (.getfield 49, 3) := by decide +kernel
theorem dX6_keepsTwins_50 : decode cX6_keepsTwins 50 = .ok (.aload_n 0, 1) := by decide +kernel
theorem dX6_keepsTwins_51 : decode cX6_keepsTwins 51 = .ok (.getfield 9, 3) := by decide +kernel
theorem dX6_keepsTwins_54 : decode cX6_keepsTwins 54 = .ok (.iload_n 1, 1) := by decide +kernel
theorem dX6_keepsTwins_55 : decode cX6_keepsTwins 55 = .ok (.iaload, 1) := by decide +kernel
theorem dX6_keepsTwins_56 : decode cX6_keepsTwins 56 = .ok (.iaload, 1) := by decide +kernel
theorem dX6_keepsTwins_57 : decode cX6_keepsTwins 57 = .ok (.iload_n 2, 1) := by decide +kernel
theorem dX6_keepsTwins_58 : decode cX6_keepsTwins 58 = .ok (.iconst (-1), 1) := by decide +kernel
theorem dX6_keepsTwins_59 : decode cX6_keepsTwins 59 = .ok (.ixor, 1) := by decide +kernel
theorem dX6_keepsTwins_60 : decode cX6_keepsTwins 60 = .ok (.iand, 1) := by decide +kernel
theorem dX6_keepsTwins_61 : decode cX6_keepsTwins 61 = .ok (.ifCond .eq 5, 3) := by decide +kernel
theorem dX6_keepsTwins_64 : decode cX6_keepsTwins 64 = .ok (.iconst 0, 1) := by decide +kernel
theorem dX6_keepsTwins_65 : decode cX6_keepsTwins 65 = .ok (.ireturn, 1) := by decide +kernel
theorem dX6_keepsTwins_66 : decode cX6_keepsTwins 66 = .ok (.iinc 1 1, 3) := by decide +kernel
theorem dX6_keepsTwins_69 : decode cX6_keepsTwins 69 = .ok (.goto (-60), 3) := by decide +kernel
theorem dX6_keepsTwins_72 : decode cX6_keepsTwins 72 = .ok (.iconst 1, 1) := by decide +kernel
theorem dX6_keepsTwins_73 : decode cX6_keepsTwins 73 = .ok (.ireturn, 1) := by decide +kernel
theorem dX6_reverse_0 : decode cX6_reverse 0 = .ok (.iload_n 1, 1) := by decide +kernel
theorem dX6_reverse_1 : decode cX6_reverse 1 = .ok (.istore_n 3, 1) := by decide +kernel
theorem dX6_reverse_2 : decode cX6_reverse 2 = .ok (.iload_n 2, 1) := by decide +kernel
theorem dX6_reverse_3 : decode cX6_reverse 3 = .ok (.istore 4, 2) := by decide +kernel
theorem dX6_reverse_5 : decode cX6_reverse 5 = .ok (.iload_n 3, 1) := by decide +kernel
theorem dX6_reverse_6 : decode cX6_reverse 6 = .ok (.iload 4, 2) := by decide +kernel
theorem dX6_reverse_8 : decode cX6_reverse 8 = .ok (.if_icmp .ge 42, 3) := by decide +kernel
theorem dX6_reverse_11 : decode cX6_reverse 11 = .ok (.aload_n 0, 1) := by decide +kernel
theorem dX6_reverse_12 : decode cX6_reverse 12 = .ok (.getfield 9, 3) := by decide +kernel
theorem dX6_reverse_15 : decode cX6_reverse 15 = .ok (.iload_n 3, 1) := by decide +kernel
theorem dX6_reverse_16 : decode cX6_reverse 16 = .ok (.iaload, 1) := by decide +kernel
theorem dX6_reverse_17 : decode cX6_reverse 17 = .ok (.istore 5, 2) := by decide +kernel
theorem dX6_reverse_19 : decode cX6_reverse 19 = .ok (.aload_n 0, 1) := by decide +kernel
theorem dX6_reverse_20 : decode cX6_reverse 20 = .ok (.getfield 9, 3) := by decide +kernel
theorem dX6_reverse_23 : decode cX6_reverse 23 = .ok (.iload_n 3, 1) := by decide +kernel
theorem dX6_reverse_24 : decode cX6_reverse 24 = .ok (.aload_n 0, 1) := by decide +kernel
theorem dX6_reverse_25 : decode cX6_reverse 25 = .ok (.getfield 9, 3) := by decide +kernel
theorem dX6_reverse_28 : decode cX6_reverse 28 = .ok (.iload 4, 2) := by decide +kernel
theorem dX6_reverse_30 : decode cX6_reverse 30 = .ok (.iaload, 1) := by decide +kernel
theorem dX6_reverse_31 : decode cX6_reverse 31 = .ok (.iastore, 1) := by decide +kernel
theorem dX6_reverse_32 : decode cX6_reverse 32 = .ok (.aload_n 0, 1) := by decide +kernel
theorem dX6_reverse_33 : decode cX6_reverse 33 = .ok (.getfield 9, 3) := by decide +kernel
theorem dX6_reverse_36 : decode cX6_reverse 36 = .ok (.iload 4, 2) := by decide +kernel
theorem dX6_reverse_38 : decode cX6_reverse 38 = .ok (.iload 5, 2) := by decide +kernel
theorem dX6_reverse_40 : decode cX6_reverse 40 = .ok (.iastore, 1) := by decide +kernel
theorem dX6_reverse_41 : decode cX6_reverse 41 = .ok (.iinc 3 1, 3) := by decide +kernel
theorem dX6_reverse_44 : decode cX6_reverse 44 = .ok (.iinc 4 (-1), 3) := by decide +kernel
theorem dX6_reverse_47 : decode cX6_reverse 47 = .ok (.goto (-42), 3) := by decide +kernel
theorem dX6_reverse_50 : decode cX6_reverse 50 = .ok (.return_, 1) := by decide +kernel
set_option maxRecDepth 20000 in
theorem ggX6_turnFirstShorter_X6_keepsTwins : GoodIn wsX6_turnFirstShorter wsX6_keepsTwins := goodIn_r _ [6, 7, 1, 8, 9, 10, 11, 12, 13, 14, 15, 16, 17, 18, 19, 20, 21, 22, 23, 24, 25, 26, 27, 28, 29, 30, 31, 32, 33, 34, 35, 36, 37, 38, 39, 40, 41, 42, 43, 44, 45, 46, 47, 48, 49, 50, 51, 52, 53, 54, 55, 56, 57, 58, 59, 60, 61, 62, 63, 64, 65, 66, 67, 68, 69, 70, 71, 72, 73, 74, 75, 76, 5, 77, 78, 79, 80, 81, 90, 91, 92, 93, 94, 95, 96, 97, 98, 99, 100, 101, 102, 103, 104, 105, 106, 107, 108, 109, 110] (by decide +kernel) (by decide +kernel)
set_option maxRecDepth 20000 in
theorem gX6_turnFirstShorter_X6_keepsTwins : GoodIn wsX6_turnFirstShorter (wsV RX6 52 RX6 yX6_keepsTwins wsX6_keepsTwins) := goodIn_app (goodIn_of _ (by decide +kernel)) ggX6_turnFirstShorter_X6_keepsTwins
set_option maxRecDepth 20000 in
theorem ggX6_turnFirstShorter_X6_isShorterTurned : GoodIn wsX6_turnFirstShorter wsX6_isShorterTurned := goodIn_r _ [85, 8, 7, 78, 79, 80, 5, 81, 1, 90, 91, 92, 93, 94, 95, 96, 97, 98, 99, 100, 101, 102, 103] (by decide +kernel) (by decide +kernel)
set_option maxRecDepth 20000 in
theorem gX6_turnFirstShorter_X6_isShorterTurned : GoodIn wsX6_turnFirstShorter (wsV RX6 56 RX6 yX6_isShorterTurned wsX6_isShorterTurned) := goodIn_app (goodIn_of _ (by decide +kernel)) ggX6_turnFirstShorter_X6_isShorterTurned
set_option maxRecDepth 20000 in
theorem ggX6_turnFirstShorter_X6_reverse : GoodIn wsX6_turnFirstShorter wsX6_reverse := goodIn_r _ [89, 8, 90, 91, 92] (by decide +kernel) (by decide +kernel)
set_option maxRecDepth 20000 in
theorem gX6_turnFirstShorter_X6_reverse : GoodIn wsX6_turnFirstShorter (wsV RX6 60 RX6 yX6_reverse wsX6_reverse) := goodIn_app (goodIn_of _ (by decide +kernel)) ggX6_turnFirstShorter_X6_reverse
theorem dX6_turnFirstShorter_0 : decode cX6_turnFirstShorter 0 = .ok (.aload_n 0, 1) := by decide +kernel
theorem dX6_turnFirstShorter_1 : decode cX6_turnFirstShorter 1 = .ok (.invokevirtual 52, 3) := by decide +kernel
theorem dX6_turnFirstShorter_4 : decode cX6_turnFirstShorter 4 = .ok (.istore_n 1, 1) := by decide +kernel
theorem dX6_turnFirstShorter_5 : decode cX6_turnFirstShorter 5 = .ok (.iconst 0, 1) := by decide +kernel
theorem dX6_turnFirstShorter_6 : decode cX6_turnFirstShorter 6 = .ok (.istore_n 2, 1) := by decide +kernel
theorem dX6_turnFirstShorter_7 : decode cX6_turnFirstShorter 7 = .ok (.iload_n 2, 1) := by decide +kernel
theorem dX6_turnFirstShorter_8 : decode cX6_turnFirstShorter 8 = .ok (.aload_n 0, 1) := by decide +kernel
theorem dX6_turnFirstShorter_9 : decode cX6_turnFirstShorter 9 = .ok (.getfield 15, 3) := by decide +kernel
theorem dX6_turnFirstShorter_12 : decode cX6_turnFirstShorter 12 = .ok (.if_icmp .ge 65, 3) := by decide +kernel
theorem dX6_turnFirstShorter_15 : decode cX6_turnFirstShorter 15 = .ok (.iload_n 2, 1) := by decide +kernel
theorem dX6_turnFirstShorter_16 : decode cX6_turnFirstShorter 16 = .ok (.iconst 1, 1) := by decide +kernel
theorem dX6_turnFirstShorter_17 : decode cX6_turnFirstShorter 17 = .ok (.iadd, 1) := by decide +kernel
theorem dX6_turnFirstShorter_18 : decode cX6_turnFirstShorter 18 = .ok (.istore_n 3, 1) := by decide +kernel
theorem dX6_turnFirstShorter_19 : decode cX6_turnFirstShorter 19 = .ok (.iload_n 3, 1) := by decide +kernel
theorem dX6_turnFirstShorter_20 : decode cX6_turnFirstShorter 20 = .ok (.aload_n 0, 1) := by decide +kernel
theorem dX6_turnFirstShorter_21 : decode cX6_turnFirstShorter 21 = .ok (.getfield 15, 3) := by decide +kernel
theorem dX6_turnFirstShorter_24 : decode cX6_turnFirstShorter 24 = .ok (.if_icmp .ge 47, 3) := by decide +kernel
theorem dX6_turnFirstShorter_27 : decode cX6_turnFirstShorter 27 = .ok (.aload_n 0, 1) := by decide +kernel
theorem dX6_turnFirstShorter_28 : decode cX6_turnFirstShorter 28 = .ok (.iload_n 2, 1) := by decide +kernel
theorem dX6_turnFirstShorter_29 : decode cX6_turnFirstShorter 29 = .ok (.iload_n 3, 1) := by decide +kernel
theorem dX6_turnFirstShorter_30 : decode cX6_turnFirstShorter 30 = .ok (.invokevirtual 56, 3) := by decide +kernel
theorem dX6_turnFirstShorter_33 : decode cX6_turnFirstShorter 33 = .ok (.ifCond .eq 32, 3) := by decide +kernel
theorem dX6_turnFirstShorter_36 : decode cX6_turnFirstShorter 36 = .ok (.aload_n 0, 1) := by decide +kernel
theorem dX6_turnFirstShorter_37 : decode cX6_turnFirstShorter 37 = .ok (.iload_n 2, 1) := by decide +kernel
theorem dX6_turnFirstShorter_38 : decode cX6_turnFirstShorter 38 = .ok (.iconst 1, 1) := by decide +kernel
theorem dX6_turnFirstShorter_39 : decode cX6_turnFirstShorter 39 = .ok (.iadd, 1) := by decide +kernel
theorem dX6_turnFirstShorter_40 : decode cX6_turnFirstShorter 40 = .ok (.iload_n 3, 1) := by decide +kernel
theorem dX6_turnFirstShorter_41 : decode cX6_turnFirstShorter 41 = .ok (.invokevirtual 60, 3) := by decide +kernel
theorem dX6_turnFirstShorter_44 : decode cX6_turnFirstShorter 44 = .ok (.iload_n 1, 1) := by decide +kernel
theorem dX6_turnFirstShorter_45 : decode cX6_turnFirstShorter 45 = .ok (.ifCond .eq 10, 3) := by decide +kernel
theorem dX6_turnFirstShorter_48 : decode cX6_turnFirstShorter 48 = .ok (.aload_n 0, 1) := by decide +kernel
theorem dX6_turnFirstShorter_49 : decode cX6_turnFirstShorter 49 = .ok (.invokevirtual 52, 3) := by decide +kernel
theorem dX6_turnFirstShorter_52 : decode cX6_turnFirstShorter 52 = .ok (.ifCond .eq 5, 3) := by decide +kernel
theorem dX6_turnFirstShorter_55 : decode cX6_turnFirstShorter 55 = .ok (.iconst 1, 1) := by decide +kernel
theorem dX6_turnFirstShorter_56 : decode cX6_turnFirstShorter 56 = .ok (.ireturn, 1) := by decide +kernel
theorem dX6_turnFirstShorter_57 : decode cX6_turnFirstShorter 57 = .ok (.aload_n 0, 1) := by decide +kernel
theorem dX6_turnFirstShorter_58 : decode cX6_turnFirstShorter 58 = .ok (.iload_n 2, 1) := by decide +kernel
theorem dX6_turnFirstShorter_59 : decode cX6_turnFirstShorter 59 = .ok (.iconst 1, 1) := by decide +kernel
theorem dX6_turnFirstShorter_60 : decode cX6_turnFirstShorter 60 = .ok (.iadd, 1) := by decide +kernel
theorem dX6_turnFirstShorter_61 : decode cX6_turnFirstShorter 61 = .ok (.iload_n 3, 1) := by decide +kernel
theorem dX6_turnFirstShorter_62 : decode cX6_turnFirstShorter 62 = .ok (.invokevirtual 60, 3) := by decide +kernel
theorem dX6_turnFirstShorter_65 : decode cX6_turnFirstShorter 65 = .ok (.iinc 3 1, 3) := by decide +kernel
theorem dX6_turnFirstShorter_68 : decode cX6_turnFirstShorter 68 = .ok (.goto (-49), 3) := by decide +kernel
theorem dX6_turnFirstShorter_71 : decode cX6_turnFirstShorter 71 = .ok (.iinc 2 1, 3) := by decide +kernel
theorem dX6_turnFirstShorter_74 : decode cX6_turnFirstShorter 74 = .ok (.goto (-67), 3) := by decide +kernel
theorem dX6_turnFirstShorter_77 : decode cX6_turnFirstShorter 77 = .ok (.iconst 0, 1) := by decide +kernel
theorem dX6_turnFirstShorter_78 : decode cX6_turnFirstShorter 78 = .ok (.ireturn, 1) := by decide +kernel
set_option maxRecDepth 20000 in
theorem ggX6_isShorterTurned_X6_after : GoodIn wsX6_isShorterTurned wsX6_after := goodIn_r _ [7, 8, 9, 10, 11] (by decide +kernel) (by decide +kernel)
set_option maxRecDepth 20000 in
theorem gX6_isShorterTurned_X6_after : GoodIn wsX6_isShorterTurned (wsV RX6 42 RX6 yX6_after wsX6_after) := goodIn_app (goodIn_of _ (by decide +kernel)) ggX6_isShorterTurned_X6_after
theorem dX6_isShorterTurned_0 : decode cX6_isShorterTurned 0 = .ok (.aload_n 0, 1) := by decide +kernel
theorem dX6_isShorterTurned_1 : decode cX6_isShorterTurned 1 = .ok (.getfield 9, 3) := by decide +kernel
theorem dX6_isShorterTurned_4 : decode cX6_isShorterTurned 4 = .ok (.iload_n 1, 1) := by decide +kernel
theorem dX6_isShorterTurned_5 : decode cX6_isShorterTurned 5 = .ok (.iaload, 1) := by decide +kernel
theorem dX6_isShorterTurned_6 : decode cX6_isShorterTurned 6 = .ok (.istore_n 3, 1) := by decide +kernel
theorem dX6_isShorterTurned_7 : decode cX6_isShorterTurned 7 = .ok (.aload_n 0, 1) := by decide +kernel
theorem dX6_isShorterTurned_8 : decode cX6_isShorterTurned 8 = .ok (.getfield 9, 3) := by decide +kernel
theorem dX6_isShorterTurned_11 : decode cX6_isShorterTurned 11 = .ok (.iload_n 1, 1) := by decide +kernel
theorem dX6_isShorterTurned_12 : decode cX6_isShorterTurned 12 = .ok (.iconst 1, 1) := by decide +kernel
theorem dX6_isShorterTurned_13 : decode cX6_isShorterTurned 13 = .ok (.iadd, 1) := by decide +kernel
theorem dX6_isShorterTurned_14 : decode cX6_isShorterTurned 14 = .ok (.iaload, 1) := by decide +kernel
theorem dX6_isShorterTurned_15 : decode cX6_isShorterTurned 15 = .ok (.istore 4, 2) := by decide +kernel
theorem dX6_isShorterTurned_17 : decode cX6_isShorterTurned 17 = .ok (.aload_n 0, 1) := by decide +kernel
theorem dX6_isShorterTurned_18 : decode cX6_isShorterTurned 18 = .ok (.getfield 9, 3) := by decide +kernel
theorem dX6_isShorterTurned_21 : decode cX6_isShorterTurned 21 = .ok (.iload_n 2, 1) := by decide +kernel
theorem dX6_isShorterTurned_22 : decode cX6_isShorterTurned 22 = .ok (.iaload, 1) := by decide +kernel
theorem dX6_isShorterTurned_23 : decode cX6_isShorterTurned 23 = .ok (.istore 5, 2) := by decide +kernel
theorem dX6_isShorterTurned_25 : decode cX6_isShorterTurned 25 = .ok (.aload_n 0, 1) := by decide +kernel
theorem dX6_isShorterTurned_26 : decode cX6_isShorterTurned 26 = .ok (.getfield 9, 3) := by decide +kernel
theorem dX6_isShorterTurned_29 : decode cX6_isShorterTurned 29 = .ok (.aload_n 0, 1) := by decide +kernel
theorem dX6_isShorterTurned_30 : decode cX6_isShorterTurned 30 = .ok (.iload_n 2, 1) := by decide +kernel
theorem dX6_isShorterTurned_31 : decode cX6_isShorterTurned 31 = .ok (.invokevirtual 42, 3) := by decide +kernel
theorem dX6_isShorterTurned_34 : decode cX6_isShorterTurned 34 = .ok (.iaload, 1) := by decide +kernel
theorem dX6_isShorterTurned_35 : decode cX6_isShorterTurned 35 = .ok (.istore 6, 2) := by decide +kernel
theorem dX6_isShorterTurned_37 : decode cX6_isShorterTurned 37 = .ok (.aload_n 0, 1) := by decide +kernel
theorem dX6_isShorterTurned_38 : decode cX6_isShorterTurned 38 = .ok (.getfield 19, 3) := by decide +kernel
theorem dX6_isShorterTurned_41 : decode cX6_isShorterTurned 41 = .ok (.getfield 38, 3) := by decide +kernel
theorem dX6_isShorterTurned_44 : decode cX6_isShorterTurned 44 = .ok (.iload_n 3, 1) := by decide +kernel
theorem dX6_isShorterTurned_45 : decode cX6_isShorterTurned 45 = .ok (.aaload, 1) := by decide +kernel
theorem dX6_isShorterTurned_46 : decode cX6_isShorterTurned 46 = .ok (.iload 5, 2) := by decide +kernel
theorem dX6_isShorterTurned_48 : decode cX6_isShorterTurned 48 = .ok (.iaload, 1) := by decide +kernel
theorem dX6_isShorterTurned_49 : decode cX6_isShorterTurned 49 = .ok (.aload_n 0, 1) := by decide +kernel
theorem dX6_isShorterTurned_50 : decode cX6_isShorterTurned 50 = .ok (.getfield 19, 3) := by decide +kernel
theorem dX6_isShorterTurned_53 : decode cX6_isShorterTurned 53 = .ok (.getfield 38, 3) := by decide +kernel
theorem dX6_isShorterTurned_56 : decode cX6_isShorterTurned 56 = .ok (.iload 4, 2) := by decide +kernel
theorem dX6_isShorterTurned_58 : decode cX6_isShorterTurned 58 = .ok (.aaload, 1) := by decide +kernel
theorem dX6_isShorterTurned_59 : decode cX6_isShorterTurned 59 = .ok (.iload 6, 2) := by decide +kernel
theorem dX6_isShorterTurned_61 : decode cX6_isShorterTurned 61 = .ok (.iaload, 1) := by decide +kernel
theorem dX6_isShorterTurned_62 : decode cX6_isShorterTurned 62 = .ok (.iadd, 1) := by decide +kernel
theorem dX6_isShorterTurned_63 : decode cX6_isShorterTurned 63 = .ok (.aload_n 0, 1) := by decide +kernel
theorem dX6_isShorterTurned_64 : decode cX6_isShorterTurned 64 = .ok (.getfield 19, 3) := by decide +kernel
theorem dX6_isShorterTurned_67 : decode cX6_isShorterTurned 67 = .ok (.getfield 38, 3) := by decide +kernel
theorem dX6_isShorterTurned_70 : decode cX6_isShorterTurned 70 = .ok (.iload_n 3, 1) := by decide +kernel
theorem dX6_isShorterTurned_71 : decode cX6_isShorterTurned 71 = .ok (.aaload, 1) := by decide +kernel
theorem dX6_isShorterTurned_72 : decode cX6_isShorterTurned 72 = .ok (.iload 4, 2) := by decide +kernel
theorem dX6_isShorterTurned_74 : decode cX6_isShorterTurned 74 = .ok (.iaload, 1) := by decide +kernel
theorem dX6_isShorterTurned_75 : decode cX6_isShorterTurned 75 = .ok (.aload_n 0, 1) := by decide +kernel
theorem dX6_isShorterTurned_76 : decode cX6_isShorterTurned 76 = .ok (.getfield 19, 3) := by decide +kernel
theorem dX6_isShorterTurned_79 : decode cX6_isShorterTurned 79 = .ok (.getfield 38, 3) := by decide +kernel
theorem dX6_isShorterTurned_82 : decode cX6_isShorterTurned 82 = .ok (.iload 5, 2) := by decide +kernel
theorem dX6_isShorterTurned_84 : decode cX6_isShorterTurned 84 = .ok (.aaload, 1) := by decide +kernel
theorem dX6_isShorterTurned_85 : decode cX6_isShorterTurned 85 = .ok (.iload 6, 2) := by decide +kernel
theorem dX6_isShorterTurned_87 : decode cX6_isShorterTurned 87 = .ok (.iaload, 1) := by decide +kernel
theorem dX6_isShorterTurned_88 : decode cX6_isShorterTurned 88 = .ok (.iadd, 1) := by decide +kernel
theorem dX6_isShorterTurned_89 : decode cX6_isShorterTurned 89 = .ok (.if_icmp .ge 7, 3) := by decide +kernel
theorem dX6_isShorterTurned_92 : decode cX6_isShorterTurned 92 = .ok (.iconst 1, 1) := by decide +kernel
theorem dX6_isShorterTurned_93 : decode cX6_isShorterTurned 93 = .ok (.goto 4, 3) := by decide +kernel
theorem dX6_isShorterTurned_96 : decode cX6_isShorterTurned 96 = .ok (.iconst 0, 1) := by decide +kernel
theorem dX6_isShorterTurned_97 : decode cX6_isShorterTurned 97 = .ok (.ireturn, 1) := by decide +kernel
set_option maxRecDepth 20000 in
theorem ggX6_writeOut_X6_after : GoodIn wsX6_writeOut wsX6_after := goodIn_r _ [7, 1, 12, 13, 14] (by decide +kernel) (by decide +kernel)
set_option maxRecDepth 20000 in
theorem gX6_writeOut_X6_after : GoodIn wsX6_writeOut (wsV RX6 42 RX6 yX6_after wsX6_after) := goodIn_app (goodIn_of _ (by decide +kernel)) ggX6_writeOut_X6_after
set_option maxRecDepth 20000 in
theorem ggX6_writeOut_X6_before : GoodIn wsX6_writeOut wsX6_before := goodIn_r _ [11, 1, 12, 13, 14] (by decide +kernel) (by decide +kernel)
set_option maxRecDepth 20000 in
theorem gX6_writeOut_X6_before : GoodIn wsX6_writeOut (wsV RX6 46 RX6 yX6_before wsX6_before) := goodIn_app (goodIn_of _ (by decide +kernel)) ggX6_writeOut_X6_before
theorem dX6_writeOut_0 : decode cX6_writeOut 0 = .ok (.iconst 0, 1) := by decide +kernel
theorem dX6_writeOut_1 : decode cX6_writeOut 1 = .ok (.istore_n 2, 1) := by decide +kernel
theorem dX6_writeOut_2 : decode cX6_writeOut 2 = .ok (.iconst 1, 1) := by decide +kernel
theorem dX6_writeOut_3 : decode cX6_writeOut 3 = .ok (.istore_n 3, 1) := by decide +kernel
theorem dX6_writeOut_4 : decode cX6_writeOut 4 = .ok (.iload_n 3, 1) := by decide +kernel
theorem dX6_writeOut_5 : decode cX6_writeOut 5 = .ok (.aload_n 0, 1) := by decide +kernel
theorem dX6_writeOut_6 : decode cX6_writeOut 6 = .ok (.getfield 15, 3) := by decide +kernel
theorem dX6_writeOut_9 : decode cX6_writeOut 9 = .ok (.if_icmp .ge 26, 3) := by decide +kernel
theorem dX6_writeOut_12 : decode cX6_writeOut 12 = .ok (.aload_n 0, 1) := by decide +kernel
theorem dX6_writeOut_13 : decode cX6_writeOut 13 = .ok (.getfield 9, 3) := by decide +kernel
theorem dX6_writeOut_16 : decode cX6_writeOut 16 = .ok (.iload_n 3, 1) := by decide +kernel
theorem dX6_writeOut_17 : decode cX6_writeOut 17 = .ok (.iaload, 1) := by decide +kernel
theorem dX6_writeOut_18 : decode cX6_writeOut 18 = .ok (.aload_n 0, 1) := by decide +kernel
theorem dX6_writeOut_19 : decode cX6_writeOut 19 = .ok (.getfield 9, 3) := by decide +kernel
theorem dX6_writeOut_22 : decode cX6_writeOut 22 = .ok (.iload_n 2, 1) := by decide +kernel
theorem dX6_writeOut_23 : decode cX6_writeOut 23 = .ok (.iaload, 1) := by decide +kernel
theorem dX6_writeOut_24 : decode cX6_writeOut 24 = .ok (.if_icmp .ge 5, 3) := by decide +kernel
theorem dX6_writeOut_27 : decode cX6_writeOut 27 = .ok (.iload_n 3, 1) := by decide +kernel
theorem dX6_writeOut_28 : decode cX6_writeOut 28 = .ok (.istore_n 2, 1) := by decide +kernel
theorem dX6_writeOut_29 : decode cX6_writeOut 29 = .ok (.iinc 3 1, 3) := by decide +kernel
theorem dX6_writeOut_32 : decode cX6_writeOut 32 = .ok (.goto (-28), 3) := by decide +kernel
theorem dX6_writeOut_35 : decode cX6_writeOut 35 = .ok (.aload_n 0, 1) := by decide +kernel
theorem dX6_writeOut_36 : decode cX6_writeOut 36 = .ok (.getfield 9, 3) := by decide +kernel
theorem dX6_writeOut_39 : decode cX6_writeOut 39 = .ok (.aload_n 0, 1) := by decide +kernel
theorem dX6_writeOut_40 : decode cX6_writeOut 40 = .ok (.iload_n 2, 1) := by decide +kernel
theorem dX6_writeOut_41 : decode cX6_writeOut 41 = .ok (.invokevirtual 42, 3) := by decide +kernel
theorem dX6_writeOut_44 : decode cX6_writeOut 44 = .ok (.iaload, 1) := by decide +kernel
theorem dX6_writeOut_45 : decode cX6_writeOut 45 = .ok (.aload_n 0, 1) := by decide +kernel
theorem dX6_writeOut_46 : decode cX6_writeOut 46 = .ok (.getfield 9, 3) := by decide +kernel
theorem dX6_writeOut_49 : decode cX6_writeOut 49 = .ok (.aload_n 0, 1) := by decide +kernel
theorem dX6_writeOut_50 : decode cX6_writeOut 50 = .ok (.iload_n 2, 1) := by decide +kernel
theorem dX6_writeOut_51 : decode cX6_writeOut 51 = .ok (.invokevirtual 46, 3) := by decide +kernel
theorem dX6_writeOut_54 : decode cX6_writeOut 54 = .ok (.iaload, 1) := by decide +kernel
theorem dX6_writeOut_55 : decode cX6_writeOut 55 = .ok (.if_icmp .ge 7, 3) := by decide +kernel
theorem dX6_writeOut_58 : decode cX6_writeOut 58 = .ok (.iconst 1, 1) := by decide +kernel
theorem dX6_writeOut_59 : decode cX6_writeOut 59 = .ok (.goto 4, 3) := by decide +kernel
theorem dX6_writeOut_62 : decode cX6_writeOut 62 = .ok (.iconst 0, 1) := by decide +kernel
theorem dX6_writeOut_63 : decode cX6_writeOut 63 = .ok (.istore_n 3, 1) := by decide +kernel
theorem dX6_writeOut_64 : decode cX6_writeOut 64 = .ok (.iload_n 2, 1) := by decide +kernel
theorem dX6_writeOut_65 : decode cX6_writeOut 65 = .ok (.istore 4, 2) := by decide +kernel
theorem dX6_writeOut_67 : decode cX6_writeOut 67 = .ok (.iconst 0, 1) := by decide +kernel
theorem dX6_writeOut_68 : decode cX6_writeOut 68 = .ok (.istore 5, 2) := by decide +kernel
theorem dX6_writeOut_70 : decode cX6_writeOut 70 = .ok (.iload 5, 2) := by decide +kernel
theorem dX6_writeOut_72 : decode cX6_writeOut 72 = .ok (.aload_n 0, 1) := by decide +kernel
theorem dX6_writeOut_73 : decode cX6_writeOut 73 = .ok (.getfield 15, 3) := by decide +kernel
theorem dX6_writeOut_76 : decode cX6_writeOut 76 = .ok (.if_icmp .ge 48, 3) := by decide +kernel
theorem dX6_writeOut_79 : decode cX6_writeOut 79 = .ok (.iload 5, 2) := by decide +kernel
theorem dX6_writeOut_81 : decode cX6_writeOut 81 = .ok (.aload_n 1, 1) := by decide +kernel
theorem dX6_writeOut_82 : decode cX6_writeOut 82 = .ok (.arraylength, 1) := by decide +kernel
theorem dX6_writeOut_83 : decode cX6_writeOut 83 = .ok (.if_icmp .ge 41, 3) := by decide +kernel
theorem dX6_writeOut_86 : decode cX6_writeOut 86 = .ok (.aload_n 1, 1) := by decide +kernel
theorem dX6_writeOut_87 : decode cX6_writeOut 87 = .ok (.iload 5, 2) := by decide +kernel
theorem dX6_writeOut_89 : decode cX6_writeOut 89 = .ok (.aload_n 0, 1) := by decide +kernel
theorem dX6_writeOut_90 : decode cX6_writeOut 90 = .ok (.getfield 9, 3) := by decide +kernel
theorem dX6_writeOut_93 : decode cX6_writeOut 93 = .ok (.iload 4, 2) := by decide +kernel
theorem dX6_writeOut_95 : decode cX6_writeOut 95 = .ok (.iaload, 1) := by decide +kernel
theorem dX6_writeOut_96 : decode cX6_writeOut 96 = .ok (.iastore, 1) := by decide +kernel
theorem dX6_writeOut_97 : decode cX6_writeOut 97 = .ok (.iload_n 3, 1) := by decide +kernel
theorem dX6_writeOut_98 : decode cX6_writeOut 98 = .ok (.ifCond .eq 12, 3) := by decide +kernel
theorem dX6_writeOut_101 : decode cX6_writeOut 101 = .ok (.aload_n 0, 1) := by decide +kernel
theorem dX6_writeOut_102 : decode cX6_writeOut 102 = .ok (.iload 4, 2) := by decide +kernel
theorem dX6_writeOut_104 : decode cX6_writeOut 104 = .ok (.invokevirtual 42, 3) := by decide +kernel
theorem dX6_writeOut_107 : decode cX6_writeOut 107 = .ok (.goto 9, 3) := by decide +kernel
theorem dX6_writeOut_110 : decode cX6_writeOut 110 = .ok (.aload_n 0, 1) := by decide +kernel
theorem dX6_writeOut_111 : decode cX6_writeOut 111 = .ok (.iload 4, 2) := by decide +kernel
theorem dX6_writeOut_113 : decode cX6_writeOut 113 = .ok (.invokevirtual 46, 3) := by decide +kernel
theorem dX6_writeOut_116 : decode cX6_writeOut 116 = .ok (.istore 4, 2) := by decide +kernel
theorem dX6_writeOut_118 : decode cX6_writeOut 118 = .ok (.iinc 5 1, 3) := by decide +kernel
theorem dX6_writeOut_121 : decode cX6_writeOut 121 = .ok (.goto (-51), 3) := by decide +kernel
theorem dX6_writeOut_124 : decode cX6_writeOut 124 = .ok (.return_, 1) := by decide +kernel
theorem dX6_after_0 : decode cX6_after 0 = .ok (.iload_n 1, 1) := by decide +kernel
theorem dX6_after_1 : decode cX6_after 1 = .ok (.iconst 1, 1) := by decide +kernel
theorem dX6_after_2 : decode cX6_after 2 = .ok (.iadd, 1) := by decide +kernel
theorem dX6_after_3 : decode cX6_after 3 = .ok (.aload_n 0, 1) := by decide +kernel
theorem dX6_after_4 : decode cX6_after 4 = .ok (.getfield 15, 3) := by decide +kernel
theorem dX6_after_7 : decode cX6_after 7 = .ok (.if_icmp .ge 9, 3) := by decide +kernel
theorem dX6_after_10 : decode cX6_after 10 = .ok (.iload_n 1, 1) := by decide +kernel
theorem dX6_after_11 : decode cX6_after 11 = .ok (.iconst 1, 1) := by decide +kernel
theorem dX6_after_12 : decode cX6_after 12 = .ok (.iadd, 1) := by decide +kernel
theorem dX6_after_13 : decode cX6_after 13 = .ok (.goto 4, 3) := by decide +kernel
theorem dX6_after_16 : decode cX6_after 16 = .ok (.iconst 0, 1) := by decide +kernel
theorem dX6_after_17 : decode cX6_after 17 = .ok (.ireturn, 1) := by decide +kernel
theorem dX6_before_0 : decode cX6_before 0 = .ok (.iload_n 1, 1) := by decide +kernel
theorem dX6_before_1 : decode cX6_before 1 = .ok (.ifCond .le 9, 3) := by decide +kernel
theorem dX6_before_4 : decode cX6_before 4 = .ok (.iload_n 1, 1) := by decide +kernel
theorem dX6_before_5 : decode cX6_before 5 = .ok (.iconst 1, 1) := by decide +kernel
theorem dX6_before_6 : decode cX6_before 6 = .ok (.isub, 1) := by decide +kernel
theorem dX6_before_7 : decode cX6_before 7 = .ok (.goto 9, 3) := by decide +kernel
theorem dX6_before_10 : decode cX6_before 10 = .ok (.aload_n 0, 1) := by decide +kernel
theorem dX6_before_11 : decode cX6_before 11 = .ok (.getfield 15, 3) := by decide +kernel
theorem dX6_before_14 : decode cX6_before 14 = .ok (.iconst 1, 1) := by decide +kernel
theorem dX6_before_15 : decode cX6_before 15 = .ok (.isub, 1) := by decide +kernel
theorem dX6_before_16 : decode cX6_before 16 = .ok (.ireturn, 1) := by decide +kernel
theorem dX7_init_0 : decode cX7_init 0 = .ok (.aload_n 0, 1) := by decide +kernel
theorem dX7_init_1 : decode cX7_init 1 = .ok (.invokespecial 3, 3) := by decide +kernel
theorem dX7_init_4 : decode cX7_init 4 = .ok (.aload_n 0, 1) := by decide +kernel
theorem dX7_init_5 : decode cX7_init 5 = .ok (.bipush 100, 2) := by decide +kernel
theorem dX7_init_7 : decode cX7_init 7 = .ok (.newarray .int, 2) := by decide +kernel
theorem dX7_init_9 : decode cX7_init 9 = .ok (.putfield 9, 3) := by decide +kernel
theorem dX7_init_12 : decode cX7_init 12 = .ok (.aload_n 0, 1) := by decide +kernel
theorem dX7_init_13 : decode cX7_init 13 = .ok (.bipush 100, 2) := by decide +kernel
theorem dX7_init_15 : decode cX7_init 15 = .ok (.newarray .int, 2) := by decide +kernel
theorem dX7_init_17 : decode cX7_init 17 = .ok (.putfield 15, 3) := by decide +kernel
theorem dX7_init_20 : decode cX7_init 20 = .ok (.aload_n 0, 1) := by decide +kernel
theorem dX7_init_21 : decode cX7_init 21 = .ok (.bipush 100, 2) := by decide +kernel
theorem dX7_init_23 : decode cX7_init 23 = .ok (.newarray .int, 2) := by decide +kernel
theorem dX7_init_25 : decode cX7_init 25 = .ok (.putfield 18, 3) := by decide +kernel
theorem dX7_init_28 : decode cX7_init 28 = .ok (.aload_n 0, 1) := by decide +kernel
theorem dX7_init_29 : decode cX7_init 29 = .ok (.bipush 100, 2) := by decide +kernel
theorem dX7_init_31 : decode cX7_init 31 = .ok (.newarray .boolean, 2) := by decide +kernel
theorem dX7_init_33 : decode cX7_init 33 = .ok (.putfield 21, 3) := by decide +kernel
theorem dX7_init_36 : decode cX7_init 36 = .ok (.aload_n 0, 1) := by decide +kernel
theorem dX7_init_37 : decode cX7_init 37 = .ok (.bipush 40, 2) := by decide +kernel
theorem dX7_init_39 : decode cX7_init 39 = .ok (.bipush 40, 2) := by decide +kernel
theorem dX7_init_41 : decode cX7_init 41 = .ok (.multianewarray 25 2, 4) := by decide +kernel
theorem dX7_init_45 : decode cX7_init 45 = .ok (.putfield 27, 3) := by decide +kernel
theorem dX7_init_48 : decode cX7_init 48 = .ok (.aload_n 0, 1) := by decide +kernel
theorem dX7_init_49 : decode cX7_init 49 = .ok (.lconst 0, 1) := by decide +kernel
theorem dX7_init_50 : decode cX7_init 50 = .ok (.putfield 30, 3) := by decide +kernel
theorem dX7_init_53 : decode cX7_init 53 = .ok (.aload_n 0, 1) := by decide +kernel
theorem dX7_init_54 : decode cX7_init 54 = .ok (.iconst 0, 1) := by decide +kernel
theorem dX7_init_55 : decode cX7_init 55 = .ok (.putfield 34, 3) := by decide +kernel
theorem dX7_init_58 : decode cX7_init 58 = .ok (.return_, 1) := by decide +kernel
theorem dX7_isLane_0 : decode cX7_isLane 0 = .ok (.iload_n 1, 1) := by decide +kernel
theorem dX7_isLane_1 : decode cX7_isLane 1 = .ok (.ifCond .lt 15, 3) := by decide +kernel
theorem dX7_isLane_4 : decode cX7_isLane 4 = .ok (.iload_n 1, 1) := by decide +kernel
theorem dX7_isLane_5 : decode cX7_isLane 5 = .ok (.aload_n 0, 1) := by decide +kernel
theorem dX7_isLane_6 : decode cX7_isLane 6 = .ok (.getfield 34, 3) := by decide +kernel
theorem dX7_isLane_9 : decode cX7_isLane 9 = .ok (.if_icmp .ge 7, 3) := by decide +kernel
theorem dX7_isLane_12 : decode cX7_isLane 12 = .ok (.iconst 1, 1) := by decide +kernel
theorem dX7_isLane_13 : decode cX7_isLane 13 = .ok (.goto 4, 3) := by decide +kernel
theorem dX7_isLane_16 : decode cX7_isLane 16 = .ok (.iconst 0, 1) := by decide +kernel
theorem dX7_isLane_17 : decode cX7_isLane 17 = .ok (.ireturn, 1) := by decide +kernel
theorem dX7_build_0 : decode cX7_build 0 = .ok (.aload_n 0, 1) := by decide +kernel
theorem dX7_build_1 : decode cX7_build 1 = .ok (.getfield 34, 3) := by decide +kernel
theorem dX7_build_4 : decode cX7_build 4 = .ok (.istore 4, 2) := by decide +kernel
theorem dX7_build_6 : decode cX7_build 6 = .ok (.aload_n 0, 1) := by decide +kernel
theorem dX7_build_7 : decode cX7_build 7 = .ok (.getfield 9, 3) := by decide +kernel
theorem dX7_build_10 : decode cX7_build 10 = .ok (.iload 4, 2) := by decide +kernel
theorem dX7_build_12 : decode cX7_build 12 = .ok (.iload_n 1, 1) := by decide +kernel
theorem dX7_build_13 : decode cX7_build 13 = .ok (.iastore, 1) := by decide +kernel
theorem dX7_build_14 : decode cX7_build 14 = .ok (.aload_n 0, 1) := by decide +kernel
theorem dX7_build_15 : decode cX7_build 15 = .ok (.getfield 15, 3) := by decide +kernel
theorem dX7_build_18 : decode cX7_build 18 = .ok (.iload 4, 2) := by decide +kernel
theorem dX7_build_20 : decode cX7_build 20 = .ok (.iload_n 2, 1) := by decide +kernel
theorem dX7_build_21 : decode cX7_build 21 = .ok (.iastore, 1) := by decide +kernel
theorem dX7_build_22 : decode cX7_build 22 = .ok (.aload_n 0, 1) := by decide +kernel
theorem dX7_build_23 : decode cX7_build 23 = .ok (.getfield 18, 3) := by decide +kernel
theorem dX7_build_26 : decode cX7_build 26 = .ok (.iload 4, 2) := by decide +kernel
theorem dX7_build_28 : decode cX7_build 28 = .ok (.iload_n 3, 1) := by decide +kernel
theorem dX7_build_29 : decode cX7_build 29 = .ok (.iastore, 1) := by decide +kernel
theorem dX7_build_30 : decode cX7_build 30 = .ok (.aload_n 0, 1) := by decide +kernel
theorem dX7_build_31 : decode cX7_build 31 = .ok (.getfield 21, 3) := by decide +kernel
theorem dX7_build_34 : decode cX7_build 34 = .ok (.iload 4, 2) := by decide +kernel
theorem dX7_build_36 : decode cX7_build 36 = .ok (.iconst 1, 1) := by decide +kernel
theorem dX7_build_37 : decode cX7_build 37 = .ok (.bastore, 1) := by decide +kernel
theorem dX7_build_38 : decode cX7_build 38 = .ok (.aload_n 0, 1) := by decide +kernel
theorem dX7_build_39 : decode cX7_build 39 = .ok (.dup, 1) := by decide +kernel
theorem dX7_build_40 : decode cX7_build 40 = .ok (.getfield 34, 3) := by decide +kernel
theorem dX7_build_43 : decode cX7_build 43 = .ok (.iconst 1, 1) := by decide +kernel
theorem dX7_build_44 : decode cX7_build 44 = .ok (.iadd, 1) := by decide +kernel
theorem dX7_build_45 : decode cX7_build 45 = .ok (.putfield 34, 3) := by decide +kernel
theorem dX7_build_48 : decode cX7_build 48 = .ok (.iload 4, 2) := by decide +kernel
theorem dX7_build_50 : decode cX7_build 50 = .ok (.ireturn, 1) := by decide +kernel
set_option maxRecDepth 20000 in
theorem ggX7_resize_X9_isLength : GoodIn wsX7_resize wsX9_isLength := goodIn_r _ [5, 6] (by decide +kernel) (by decide +kernel)
set_option maxRecDepth 20000 in
theorem gX7_resize_X9_isLength_n38 : GoodIn wsX7_resize (wsX9_isLength) := ggX7_resize_X9_isLength
theorem dX7_resize_0 : decode cX7_resize 0 = .ok (.lload_n 2, 1) := by decide +kernel
theorem dX7_resize_1 : decode cX7_resize 1 = .ok (.invokestatic 38, 3) := by decide +kernel
theorem dX7_resize_4 : decode cX7_resize 4 = .ok (.ifCond .eq 14, 3) := by decide +kernel
theorem dX7_resize_7 : decode cX7_resize 7 = .ok (.aload_n 0, 1) := by decide +kernel
theorem dX7_resize_8 : decode cX7_resize 8 = .ok (.getfield 18, 3) := by decide +kernel
theorem dX7_resize_11 : decode cX7_resize 11 = .ok (.iload_n 1, 1) := by decide +kernel
theorem dX7_resize_12 : decode cX7_resize 12 = .ok (.lload_n 2, 1) := by decide +kernel
theorem dX7_resize_13 : decode cX7_resize 13 = .ok (.l2i, 1) := by decide +kernel
theorem dX7_resize_14 : decode cX7_resize 14 = .ok (.iastore, 1) := by decide +kernel
theorem dX7_resize_15 : decode cX7_resize 15 = .ok (.goto 10, 3) := by decide +kernel
theorem dX7_resize_18 : decode cX7_resize 18 = .ok (.aload_n 0, 1) := by decide +kernel
theorem dX7_resize_19 : decode cX7_resize 19 = .ok (.getfield 21, 3) := by decide +kernel
theorem dX7_resize_22 : decode cX7_resize 22 = .ok (.iload_n 1, 1) := by decide +kernel
theorem dX7_resize_23 : decode cX7_resize 23 = .ok (.iconst 0, 1) := by decide +kernel
theorem dX7_resize_24 : decode cX7_resize 24 = .ok (.bastore, 1) := by decide +kernel
theorem dX7_resize_25 : decode cX7_resize 25 = .ok (.return_, 1) := by decide +kernel
theorem dX7_forgetWays_0 : decode cX7_forgetWays 0 = .ok (.aload_n 0, 1) := by decide +kernel
theorem dX7_forgetWays_1 : decode cX7_forgetWays 1 = .ok (.lconst 0, 1) := by decide +kernel
theorem dX7_forgetWays_2 : decode cX7_forgetWays 2 = .ok (.putfield 30, 3) := by decide +kernel
theorem dX7_forgetWays_5 : decode cX7_forgetWays 5 = .ok (.return_, 1) := by decide +kernel
set_option maxRecDepth 20000 in
theorem ggX7_waysFrom_X7_reckon : GoodIn wsX7_waysFrom wsX7_reckon := goodIn_r _ [7, 8, 9, 10, 11, 12, 13, 14, 15, 16, 17, 6, 18, 19, 20, 21, 22, 23, 24, 25, 26, 27, 28] (by decide +kernel) (by decide +kernel)
set_option maxRecDepth 20000 in
theorem gX7_waysFrom_X7_reckon : GoodIn wsX7_waysFrom (wsV RX7 42 RX7 yX7_reckon wsX7_reckon) := goodIn_app (goodIn_of _ (by decide +kernel)) ggX7_waysFrom_X7_reckon
theorem dX7_waysFrom_0 : decode cX7_waysFrom 0 = .ok (.aload_n 0, 1) := by decide +kernel
theorem dX7_waysFrom_1 : decode cX7_waysFrom 1 = .ok (.getfield 30, 3) := by decide +kernel
theorem dX7_waysFrom_4 : decode cX7_waysFrom 4 = .ok (.iload_n 1, 1) := by decide +kernel
theorem dX7_waysFrom_5 : decode cX7_waysFrom 5 = .ok (.lshr, 1) := by decide +kernel
theorem dX7_waysFrom_6 : decode cX7_waysFrom 6 = .ok (.lconst 1, 1) := by decide +kernel
theorem dX7_waysFrom_7 : decode cX7_waysFrom 7 = .ok (.land, 1) := by decide +kernel
theorem dX7_waysFrom_8 : decode cX7_waysFrom 8 = .ok (.lconst 0, 1) := by decide +kernel
theorem dX7_waysFrom_9 : decode cX7_waysFrom 9 = .ok (.lcmp, 1) := by decide +kernel
theorem dX7_waysFrom_10 : decode cX7_waysFrom 10 = .ok (.ifCond .ne 26, 3) := by decide +kernel
theorem dX7_waysFrom_13 : decode cX7_waysFrom 13 = .ok (.aload_n 0, 1) := by decide +kernel
theorem dX7_waysFrom_14 : decode cX7_waysFrom 14 = .ok (.aload_n 0, 1) := by decide +kernel
theorem dX7_waysFrom_15 : decode cX7_waysFrom 15 = .ok (.getfield 27, 3) := by decide +kernel
theorem dX7_waysFrom_18 : decode cX7_waysFrom 18 = .ok (.iload_n 1, 1) := by decide +kernel
theorem dX7_waysFrom_19 : decode cX7_waysFrom 19 = .ok (.aaload, 1) := by decide +kernel
theorem dX7_waysFrom_20 : decode cX7_waysFrom 20 = .ok (.iload_n 1, 1) := by decide +kernel
theorem dX7_waysFrom_21 : decode cX7_waysFrom 21 = .ok (.invokevirtual 42, 3) := by decide +kernel
theorem dX7_waysFrom_24 : decode cX7_waysFrom 24 = .ok (.aload_n 0, 1) := by decide +kernel
theorem dX7_waysFrom_25 : decode cX7_waysFrom 25 = .ok (.dup, 1) := by decide +kernel
theorem dX7_waysFrom_26 : decode cX7_waysFrom 26 = .ok (.getfield 30, 3) := by decide +kernel
theorem dX7_waysFrom_29 : decode cX7_waysFrom 29 = .ok (.lconst 1, 1) := by decide +kernel
theorem dX7_waysFrom_30 : decode cX7_waysFrom 30 = .ok (.iload_n 1, 1) := by decide +kernel
theorem dX7_waysFrom_31 : decode cX7_waysFrom 31 = .ok (.lshl, 1) := by decide +kernel
theorem dX7_waysFrom_32 : decode cX7_waysFrom 32 = .ok (.lor, 1) := by decide +kernel
theorem dX7_waysFrom_33 : decode cX7_waysFrom 33 = .ok (.putfield 30, 3) := by decide +kernel
theorem dX7_waysFrom_36 : decode cX7_waysFrom 36 = .ok (.aload_n 0, 1) := by decide +kernel
theorem dX7_waysFrom_37 : decode cX7_waysFrom 37 = .ok (.getfield 27, 3) := by decide +kernel
theorem dX7_waysFrom_40 : decode cX7_waysFrom 40 = .ok (.iload_n 1, 1) := by decide +kernel
theorem dX7_waysFrom_41 : decode cX7_waysFrom 41 = .ok (.aaload, 1) := by decide +kernel
theorem dX7_waysFrom_42 : decode cX7_waysFrom 42 = .ok (.areturn, 1) := by decide +kernel
set_option maxRecDepth 20000 in
theorem ggX7_reckon_J7_fill_53178 : GoodIn wsX7_reckon wsJ7_fill_53178 := goodIn_r _ [7] (by decide +kernel) (by decide +kernel)
set_option maxRecDepth 20000 in
theorem gX7_reckon_J7_fill_53178 : GoodIn wsX7_reckon (va_wsS RX7 47 yJ7_fill_53178 wsJ7_fill_53178) := goodIn_app (goodIn_of _ (by decide +kernel)) ggX7_reckon_J7_fill_53178
set_option maxRecDepth 20000 in
theorem ggX7_reckon_X7_shorten : GoodIn wsX7_reckon wsX7_shorten := goodIn_r _ [12, 13, 14, 15, 16, 17, 18, 19, 20, 21, 22] (by decide +kernel) (by decide +kernel)
set_option maxRecDepth 20000 in
theorem gX7_reckon_X7_shorten : GoodIn wsX7_reckon (wsV RX7 52 RX7 yX7_shorten wsX7_shorten) := goodIn_app (goodIn_of _ (by decide +kernel)) ggX7_reckon_X7_shorten
theorem dX7_reckon_0 : decode cX7_reckon 0 = .ok (.aload_n 1, 1) := by decide +kernel
theorem dX7_reckon_1 : decode cX7_reckon 1 = .ok (.ldc 46, 2) := by decide +kernel
theorem dX7_reckon_3 : decode cX7_reckon 3 = .ok (.invokestatic 47, 3) := by decide +kernel
theorem dX7_reckon_6 : decode cX7_reckon 6 = .ok (.aload_n 1, 1) := by decide +kernel
theorem dX7_reckon_7 : decode cX7_reckon 7 = .ok (.iload_n 2, 1) := by decide +kernel
theorem dX7_reckon_8 : decode cX7_reckon 8 = .ok (.iconst 0, 1) := by decide +kernel
theorem dX7_reckon_9 : decode cX7_reckon 9 = .ok (.iastore, 1) := by decide +kernel
theorem dX7_reckon_10 : decode cX7_reckon 10 = .ok (.iconst 1, 1) := by decide +kernel
theorem dX7_reckon_11 : decode cX7_reckon 11 = .ok (.istore_n 3, 1) := by decide +kernel
theorem dX7_reckon_12 : decode cX7_reckon 12 = .ok (.iconst 0, 1) := by decide +kernel
theorem dX7_reckon_13 : decode cX7_reckon 13 = .ok (.istore 4, 2) := by decide +kernel
theorem dX7_reckon_15 : decode cX7_reckon 15 = .ok (.iload_n 3, 1) := by decide +kernel
theorem dX7_reckon_16 : decode cX7_reckon 16 = .ok (.ifCond .eq 58, 3) := by decide +kernel
theorem dX7_reckon_19 : decode cX7_reckon 19 = .ok (.iload 4, 2) := by decide +kernel
theorem dX7_reckon_21 : decode cX7_reckon 21 = .ok (.bipush 40, 2) := by decide +kernel
theorem dX7_reckon_23 : decode cX7_reckon 23 = .ok (.if_icmp .ge 51, 3) := by decide +kernel
theorem dX7_reckon_26 : decode cX7_reckon 26 = .ok (.iconst 0, 1) := by decide +kernel
theorem dX7_reckon_27 : decode cX7_reckon 27 = .ok (.istore_n 3, 1) := by decide +kernel
theorem dX7_reckon_28 : decode cX7_reckon 28 = .ok (.iconst 0, 1) := by decide +kernel
theorem dX7_reckon_29 : decode cX7_reckon 29 = .ok (.istore 5, 2) := by decide +kernel
theorem dX7_reckon_31 : decode cX7_reckon 31 = .ok (.iload 5, 2) := by decide +kernel
theorem dX7_reckon_33 : decode cX7_reckon 33 = .ok (.aload_n 0, 1) := by decide +kernel
theorem dX7_reckon_34 : decode cX7_reckon 34 = .ok (.getfield 34, 3) := by decide +kernel
theorem dX7_reckon_37 : decode cX7_reckon 37 = .ok (.if_icmp .ge 31, 3) := by decide +kernel
theorem dX7_reckon_40 : decode cX7_reckon 40 = .ok (.aload_n 0, 1) := by decide +kernel
theorem dX7_reckon_41 : decode cX7_reckon 41 = .ok (.getfield 21, 3) := by decide +kernel
theorem dX7_reckon_44 : decode cX7_reckon 44 = .ok (.iload 5, 2) := by decide +kernel
theorem dX7_reckon_46 : decode cX7_reckon 46 = .ok (.baload, 1) := by decide +kernel
theorem dX7_reckon_47 : decode cX7_reckon 47 = .ok (.ifCond .eq 15, 3) := by decide +kernel
theorem dX7_reckon_50 : decode cX7_reckon 50 = .ok (.aload_n 0, 1) := by decide +kernel
theorem dX7_reckon_51 : decode cX7_reckon 51 = .ok (.aload_n 1, 1) := by decide +kernel
theorem dX7_reckon_52 : decode cX7_reckon 52 = .ok (.iload 5, 2) := by decide +kernel
theorem dX7_reckon_54 : decode cX7_reckon 54 = .ok (.invokevirtual 52, 3) := by decide +kernel
theorem dX7_reckon_57 : decode cX7_reckon 57 = .ok (.ifCond .eq 5, 3) := by decide +kernel
theorem dX7_reckon_60 : decode cX7_reckon 60 = .ok (.iconst 1, 1) := by decide +kernel
theorem dX7_reckon_61 : decode cX7_reckon 61 = .ok (.istore_n 3, 1) := by decide +kernel
theorem dX7_reckon_62 : decode cX7_reckon 62 = .ok (.iinc 5 1, 3) := by decide +kernel
theorem dX7_reckon_65 : decode cX7_reckon 65 = .ok (.goto (-34), 3) := by decide +kernel
theorem dX7_reckon_68 : decode cX7_reckon 68 = .ok (.iinc 4 1, 3) := by decide +kernel
theorem dX7_reckon_71 : decode cX7_reckon 71 = .ok (.goto (-56), 3) := by decide +kernel
theorem dX7_reckon_74 : decode cX7_reckon 74 = .ok (.return_, 1) := by decide +kernel
theorem dX7_shorten_0 : decode cX7_shorten 0 = .ok (.aload_n 0, 1) := by decide +kernel
theorem dX7_shorten_1 : decode cX7_shorten 1 = .ok (.getfield 9, 3) := by decide +kernel
theorem dX7_shorten_4 : decode cX7_shorten 4 = .ok (.iload_n 2, 1) := by decide +kernel
theorem dX7_shorten_5 : decode cX7_shorten 5 = .ok (.iaload, 1) := by decide +kernel
theorem dX7_shorten_6 : decode cX7_shorten 6 = .ok (.istore_n 3, 1) := by decide +kernel
theorem dX7_shorten_7 : decode cX7_shorten 7 = .ok (.aload_n 0, 1) := by decide +kernel
theorem dX7_shorten_8 : decode cX7_shorten 8 = .ok (.getfield 15, 3) := by decide +kernel
theorem dX7_shorten_11 : decode cX7_shorten 11 = .ok (.iload_n 2, 1) := by decide +kernel
theorem dX7_shorten_12 : decode cX7_shorten 12 = .ok (.iaload, 1) := by decide +kernel
theorem dX7_shorten_13 : decode cX7_shorten 13 = .ok (.istore 4, 2) := by decide +kernel
theorem dX7_shorten_15 : decode cX7_shorten 15 = .ok (.aload_n 1, 1) := by decide +kernel
theorem dX7_shorten_16 : decode cX7_shorten 16 = .ok (.iload_n 3, 1) := by decide +kernel
theorem dX7_shorten_17 : decode cX7_shorten 17 = .ok (.iaload, 1) := by decide +kernel
theorem dX7_shorten_18 : decode cX7_shorten 18 = .ok (.aload_n 0, 1) := by decide +kernel
theorem dX7_shorten_19 : decode cX7_shorten 19 = .ok (.getfield 18, 3) := by decide +kernel
theorem dX7_shorten_22 : decode cX7_shorten 22 = .ok (.iload_n 2, 1) := by decide +kernel
theorem dX7_shorten_23 : decode cX7_shorten 23 = .ok (.iaload, 1) := by decide +kernel
theorem dX7_shorten_24 : decode cX7_shorten 24 = .ok (.iadd, 1) := by decide +kernel
theorem dX7_shorten_25 : decode cX7_shorten 25 = .ok (.aload_n 1, 1) := by decide +kernel
theorem dX7_shorten_26 : decode cX7_shorten 26 = .ok (.iload 4, 2) := by decide +kernel
theorem dX7_shorten_28 : decode cX7_shorten 28 = .ok (.iaload, 1) := by decide +kernel
theorem dX7_shorten_29 : decode cX7_shorten 29 = .ok (.if_icmp .ge 19, 3) := by decide +kernel
theorem dX7_shorten_32 : decode cX7_shorten 32 = .ok (.aload_n 1, 1) := by decide +kernel
theorem dX7_shorten_33 : decode cX7_shorten 33 = .ok (.iload 4, 2) := by decide +kernel
theorem dX7_shorten_35 : decode cX7_shorten 35 = .ok (.aload_n 1, 1) := by decide +kernel
theorem dX7_shorten_36 : decode cX7_shorten 36 = .ok (.iload_n 3, 1) := by decide +kernel
theorem dX7_shorten_37 : decode cX7_shorten 37 = .ok (.iaload, 1) := by decide +kernel
theorem dX7_shorten_38 : decode cX7_shorten 38 = .ok (.aload_n 0, 1) := by decide +kernel
theorem dX7_shorten_39 : decode cX7_shorten 39 = .ok (.getfield 18, 3) := by decide +kernel
theorem dX7_shorten_42 : decode cX7_shorten 42 = .ok (.iload_n 2, 1) := by decide +kernel
theorem dX7_shorten_43 : decode cX7_shorten 43 = .ok (.iaload, 1) := by decide +kernel
theorem dX7_shorten_44 : decode cX7_shorten 44 = .ok (.iadd, 1) := by decide +kernel
theorem dX7_shorten_45 : decode cX7_shorten 45 = .ok (.iastore, 1) := by decide +kernel
theorem dX7_shorten_46 : decode cX7_shorten 46 = .ok (.iconst 1, 1) := by decide +kernel
theorem dX7_shorten_47 : decode cX7_shorten 47 = .ok (.ireturn, 1) := by decide +kernel
theorem dX7_shorten_48 : decode cX7_shorten 48 = .ok (.aload_n 1, 1) := by decide +kernel
theorem dX7_shorten_49 : decode cX7_shorten 49 = .ok (.iload 4, 2) := by decide +kernel
theorem dX7_shorten_51 : decode cX7_shorten 51 = .ok (.iaload, 1) := by decide +kernel
theorem dX7_shorten_52 : decode cX7_shorten 52 = .ok (.aload_n 0, 1) := by decide +kernel
theorem dX7_shorten_53 : decode cX7_shorten 53 = .ok (.getfield 18, 3) := by decide +kernel
theorem dX7_shorten_56 : decode cX7_shorten 56 = .ok (.iload_n 2, 1) := by decide +kernel
theorem dX7_shorten_57 : decode cX7_shorten 57 = .ok (.iaload, 1) := by decide +kernel
theorem dX7_shorten_58 : decode cX7_shorten 58 = .ok (.iadd, 1) := by decide +kernel
theorem dX7_shorten_59 : decode cX7_shorten 59 = .ok (.aload_n 1, 1) := by decide +kernel
theorem dX7_shorten_60 : decode cX7_shorten 60 = .ok (.iload_n 3, 1) := by decide +kernel
theorem dX7_shorten_61 : decode cX7_shorten 61 = .ok (.iaload, 1) := by decide +kernel
theorem dX7_shorten_62 : decode cX7_shorten 62 = .ok (.if_icmp .ge 19, 3) := by decide +kernel
theorem dX7_shorten_65 : decode cX7_shorten 65 = .ok (.aload_n 1, 1) := by decide +kernel
theorem dX7_shorten_66 : decode cX7_shorten 66 = .ok (.iload_n 3, 1) := by decide +kernel
theorem dX7_shorten_67 : decode cX7_shorten 67 = .ok (.aload_n 1, 1) := by decide +kernel
theorem dX7_shorten_68 : decode cX7_shorten 68 = .ok (.iload 4, 2) := by decide +kernel
theorem dX7_shorten_70 : decode cX7_shorten 70 = .ok (.iaload, 1) := by decide +kernel
theorem dX7_shorten_71 : decode cX7_shorten 71 = .ok (.aload_n 0, 1) := by decide +kernel
theorem dX7_shorten_72 : decode cX7_shorten 72 = .ok (.getfield 18, 3) := by decide +kernel
theorem dX7_shorten_75 : decode cX7_shorten 75 = .ok (.iload_n 2, 1) := by decide +kernel
theorem dX7_shorten_76 : decode cX7_shorten 76 = .ok (.iaload, 1) := by decide +kernel
theorem dX7_shorten_77 : decode cX7_shorten 77 = .ok (.iadd, 1) := by decide +kernel
theorem dX7_shorten_78 : decode cX7_shorten 78 = .ok (.iastore, 1) := by decide +kernel
theorem dX7_shorten_79 : decode cX7_shorten 79 = .ok (.iconst 1, 1) := by decide +kernel
theorem dX7_shorten_80 : decode cX7_shorten 80 = .ok (.ireturn, 1) := by decide +kernel
theorem dX7_shorten_81 : decode cX7_shorten 81 = .ok (.iconst 0, 1) := by decide +kernel
theorem dX7_shorten_82 : decode cX7_shorten 82 = .ok (.ireturn, 1) := by decide +kernel
set_option maxRecDepth 20000 in
theorem ggX7_crossingOnWalk_X7_waysFrom : GoodIn wsX7_crossingOnWalk wsX7_waysFrom := goodIn_r _ [6, 7, 8, 9, 10, 11, 5, 12, 1, 13, 14, 15, 16, 17, 18, 19, 20, 21, 22, 23, 24, 25, 34, 35, 36, 37, 38, 39, 40] (by decide +kernel) (by decide +kernel)
set_option maxRecDepth 20000 in
theorem gX7_crossingOnWalk_X7_waysFrom : GoodIn wsX7_crossingOnWalk (wsV RX7 56 RX7 yX7_waysFrom wsX7_waysFrom) := goodIn_app (goodIn_of _ (by decide +kernel)) ggX7_crossingOnWalk_X7_waysFrom
set_option maxRecDepth 20000 in
theorem ggX7_crossingOnWalk_X7_nextOnWalk : GoodIn wsX7_crossingOnWalk wsX7_nextOnWalk := goodIn_r _ [29, 13, 14, 25, 30, 31, 32, 5, 33, 23, 24, 34, 35, 36, 37, 38, 39, 40] (by decide +kernel) (by decide +kernel)
set_option maxRecDepth 20000 in
theorem gX7_crossingOnWalk_X7_nextOnWalk : GoodIn wsX7_crossingOnWalk (wsV RX7 60 RX7 yX7_nextOnWalk wsX7_nextOnWalk) := goodIn_app (goodIn_of _ (by decide +kernel)) ggX7_crossingOnWalk_X7_nextOnWalk
theorem dX7_crossingOnWalk_0 : decode cX7_crossingOnWalk 0 = .ok (.aload_n 0, 1) := by decide +kernel
theorem dX7_crossingOnWalk_1 : decode cX7_crossingOnWalk 1 = .ok (.iload_n 2, 1) := by decide +kernel
theorem dX7_crossingOnWalk_2 : decode cX7_crossingOnWalk 2 = .ok (.invokevirtual 56, 3) := by decide +kernel
theorem dX7_crossingOnWalk_5 : decode cX7_crossingOnWalk 5 = .ok (.astore 4, 2) := by decide +kernel
theorem dX7_crossingOnWalk_7 : decode cX7_crossingOnWalk 7 = .ok (.iload_n 3, 1) := by decide +kernel
theorem dX7_crossingOnWalk_8 : decode cX7_crossingOnWalk 8 = .ok (.ifCond .lt 18, 3) := by decide +kernel
theorem dX7_crossingOnWalk_11 : decode cX7_crossingOnWalk 11 = .ok (.iload_n 3, 1) := by decide +kernel
theorem dX7_crossingOnWalk_12 : decode cX7_crossingOnWalk 12 = .ok (.bipush 40, 2) := by decide +kernel
theorem dX7_crossingOnWalk_14 : decode cX7_crossingOnWalk 14 = .ok (.if_icmp .ge 12, 3) := by decide +kernel
theorem dX7_crossingOnWalk_17 : decode cX7_crossingOnWalk 17 = .ok (.aload 4, 2) := by decide +kernel
theorem dX7_crossingOnWalk_19 : decode cX7_crossingOnWalk 19 = .ok (.iload_n 1, 1) := by decide +kernel
theorem dX7_crossingOnWalk_20 : decode cX7_crossingOnWalk 20 = .ok (.iaload, 1) := by decide +kernel
theorem dX7_crossingOnWalk_21 : decode cX7_crossingOnWalk 21 = .ok (.ldc 46, 2) := by decide +kernel
theorem dX7_crossingOnWalk_23 : decode cX7_crossingOnWalk 23 = .ok (.if_icmp .ne 5, 3) := by decide +kernel
theorem dX7_crossingOnWalk_26 : decode cX7_crossingOnWalk 26 = .ok (.iconst (-1), 1) := by decide +kernel
theorem dX7_crossingOnWalk_27 : decode cX7_crossingOnWalk 27 = .ok (.ireturn, 1) := by decide +kernel
theorem dX7_crossingOnWalk_28 : decode cX7_crossingOnWalk 28 = .ok (.iload_n 1, 1) := by decide +kernel
theorem dX7_crossingOnWalk_29 : decode cX7_crossingOnWalk 29 = .ok (.istore 5, 2) := by decide +kernel
theorem dX7_crossingOnWalk_31 : decode cX7_crossingOnWalk 31 = .ok (.iconst 0, 1) := by decide +kernel
theorem dX7_crossingOnWalk_32 : decode cX7_crossingOnWalk 32 = .ok (.istore 6, 2) := by decide +kernel
theorem dX7_crossingOnWalk_34 : decode cX7_crossingOnWalk 34 = .ok (.iload 6, 2) := by decide +kernel
theorem dX7_crossingOnWalk_36 : decode cX7_crossingOnWalk 36 = .ok (.iload_n 3, 1) := by decide +kernel
theorem dX7_crossingOnWalk_37 : decode cX7_crossingOnWalk 37 = .ok (.if_icmp .ge 27, 3) := by decide +kernel
theorem dX7_crossingOnWalk_40 : decode cX7_crossingOnWalk 40 = .ok (.iload 5, 2) := by decide +kernel
theorem dX7_crossingOnWalk_42 : decode cX7_crossingOnWalk 42 = .ok (.iload_n 2, 1) := by decide +kernel
theorem dX7_crossingOnWalk_43 : decode cX7_crossingOnWalk 43 = .ok (.if_icmp .ne 5, 3) := by decide +kernel
theorem dX7_crossingOnWalk_46 : decode cX7_crossingOnWalk 46 = .ok (.iconst (-1), 1) := by decide +kernel
theorem dX7_crossingOnWalk_47 : decode cX7_crossingOnWalk 47 = .ok (.ireturn, 1) := by decide +kernel
theorem dX7_crossingOnWalk_48 : decode cX7_crossingOnWalk 48 = .ok (.aload_n 0, 1) := by decide +kernel
theorem dX7_crossingOnWalk_49 : decode cX7_crossingOnWalk 49 = .ok (.iload 5, 2) := by decide +kernel
theorem dX7_crossingOnWalk_51 : decode cX7_crossingOnWalk 51 = .ok (.aload 4, 2) := by decide +kernel
theorem dX7_crossingOnWalk_53 : decode cX7_crossingOnWalk 53 = .ok (.invokevirtual 60, 3) := by decide +kernel
theorem dX7_crossingOnWalk_56 : decode cX7_crossingOnWalk 56 = .ok (.istore 5, 2) := by decide +kernel
theorem dX7_crossingOnWalk_58 : decode cX7_crossingOnWalk 58 = .ok (.iinc 6 1, 3) := by decide +kernel
theorem dX7_crossingOnWalk_61 : decode cX7_crossingOnWalk 61 = .ok (.goto (-27), 3) := by decide +kernel
theorem dX7_crossingOnWalk_64 : decode cX7_crossingOnWalk 64 = .ok (.iload 5, 2) := by decide +kernel
theorem dX7_crossingOnWalk_66 : decode cX7_crossingOnWalk 66 = .ok (.ireturn, 1) := by decide +kernel
set_option maxRecDepth 20000 in
theorem ggX7_nextOnWalk_X7_farEnd : GoodIn wsX7_nextOnWalk wsX7_farEnd := goodIn_r _ [8, 9, 10, 11, 12, 13, 14, 15, 16, 17] (by decide +kernel) (by decide +kernel)
set_option maxRecDepth 20000 in
theorem gX7_nextOnWalk_X7_farEnd : GoodIn wsX7_nextOnWalk (wsV RX7 64 RX7 yX7_farEnd wsX7_farEnd) := goodIn_app (goodIn_of _ (by decide +kernel)) ggX7_nextOnWalk_X7_farEnd
theorem dX7_nextOnWalk_0 : decode cX7_nextOnWalk 0 = .ok (.iload_n 1, 1) := by decide +kernel
theorem dX7_nextOnWalk_1 : decode cX7_nextOnWalk 1 = .ok (.istore_n 3, 1) := by decide +kernel
theorem dX7_nextOnWalk_2 : decode cX7_nextOnWalk 2 = .ok (.iconst 0, 1) := by decide +kernel
theorem dX7_nextOnWalk_3 : decode cX7_nextOnWalk 3 = .ok (.istore 4, 2) := by decide +kernel
theorem dX7_nextOnWalk_5 : decode cX7_nextOnWalk 5 = .ok (.iload 4, 2) := by decide +kernel
theorem dX7_nextOnWalk_7 : decode cX7_nextOnWalk 7 = .ok (.aload_n 0, 1) := by decide +kernel
theorem dX7_nextOnWalk_8 : decode cX7_nextOnWalk 8 = .ok (.getfield 34, 3) := by decide +kernel
theorem dX7_nextOnWalk_11 : decode cX7_nextOnWalk 11 = .ok (.if_icmp .ge 66, 3) := by decide +kernel
theorem dX7_nextOnWalk_14 : decode cX7_nextOnWalk 14 = .ok (.aload_n 0, 1) := by decide +kernel
theorem dX7_nextOnWalk_15 : decode cX7_nextOnWalk 15 = .ok (.iload 4, 2) := by decide +kernel
theorem dX7_nextOnWalk_17 : decode cX7_nextOnWalk 17 = .ok (.iload_n 1, 1) := by decide +kernel
theorem dX7_nextOnWalk_18 : decode cX7_nextOnWalk 18 = .ok (.invokevirtual 64, 3) := by decide +kernel
theorem dX7_nextOnWalk_21 : decode cX7_nextOnWalk 21 = .ok (.istore 5, 2) := by decide +kernel
theorem dX7_nextOnWalk_23 : decode cX7_nextOnWalk 23 = .ok (.iload 5, 2) := by decide +kernel
theorem dX7_nextOnWalk_25 : decode cX7_nextOnWalk 25 = .ok (.iconst (-1), 1) := by decide +kernel
theorem dX7_nextOnWalk_26 : decode cX7_nextOnWalk 26 = .ok (.if_icmp .eq 45, 3) := by decide +kernel
theorem dX7_nextOnWalk_29 : decode cX7_nextOnWalk 29 = .ok (.aload_n 0, 1) := by decide +kernel
theorem dX7_nextOnWalk_30 : decode cX7_nextOnWalk 30 = .ok (.getfield 21, 3) := by decide +kernel
theorem dX7_nextOnWalk_33 : decode cX7_nextOnWalk 33 = .ok (.iload 4, 2) := by decide +kernel
theorem dX7_nextOnWalk_35 : decode cX7_nextOnWalk 35 = .ok (.baload, 1) := by decide +kernel
theorem dX7_nextOnWalk_36 : decode cX7_nextOnWalk 36 = .ok (.ifCond .eq 35, 3) := by decide +kernel
theorem dX7_nextOnWalk_39 : decode cX7_nextOnWalk 39 = .ok (.aload_n 0, 1) := by decide +kernel
theorem dX7_nextOnWalk_40 : decode cX7_nextOnWalk 40 = .ok (.getfield 18, 3) := by decide +kernel
theorem dX7_nextOnWalk_43 : decode cX7_nextOnWalk 43 = .ok (.iload 4, 2) := by decide +kernel
theorem dX7_nextOnWalk_45 : decode cX7_nextOnWalk 45 = .ok (.iaload, 1) := by decide +kernel
theorem dX7_nextOnWalk_46 : decode cX7_nextOnWalk 46 = .ok (.aload_n 2, 1) := by decide +kernel
theorem dX7_nextOnWalk_47 : decode cX7_nextOnWalk 47 = .ok (.iload 5, 2) := by decide +kernel
theorem dX7_nextOnWalk_49 : decode cX7_nextOnWalk 49 = .ok (.iaload, 1) := by decide +kernel
theorem dX7_nextOnWalk_50 : decode cX7_nextOnWalk 50 = .ok (.iadd, 1) := by decide +kernel
theorem dX7_nextOnWalk_51 : decode cX7_nextOnWalk 51 = .ok (.aload_n 2, 1) := by decide +kernel
theorem dX7_nextOnWalk_52 : decode cX7_nextOnWalk 52 = .ok (.iload_n 1, 1) := by decide +kernel
theorem dX7_nextOnWalk_53 : decode cX7_nextOnWalk 53 = .ok (.iaload, 1) := by decide +kernel
theorem dX7_nextOnWalk_54 : decode cX7_nextOnWalk 54 = .ok (.if_icmp .ne 17, 3) := by decide +kernel
theorem dX7_nextOnWalk_57 : decode cX7_nextOnWalk 57 = .ok (.iload_n 3, 1) := by decide +kernel
theorem dX7_nextOnWalk_58 : decode cX7_nextOnWalk 58 = .ok (.iload_n 1, 1) := by decide +kernel
theorem dX7_nextOnWalk_59 : decode cX7_nextOnWalk 59 = .ok (.if_icmp .eq 9, 3) := by decide +kernel
theorem dX7_nextOnWalk_62 : decode cX7_nextOnWalk 62 = .ok (.iload 5, 2) := by decide +kernel
theorem dX7_nextOnWalk_64 : decode cX7_nextOnWalk 64 = .ok (.iload_n 3, 1) := by decide +kernel
theorem dX7_nextOnWalk_65 : decode cX7_nextOnWalk 65 = .ok (.if_icmp .ge 6, 3) := by decide +kernel
theorem dX7_nextOnWalk_68 : decode cX7_nextOnWalk 68 = .ok (.iload 5, 2) := by decide +kernel
theorem dX7_nextOnWalk_70 : decode cX7_nextOnWalk 70 = .ok (.istore_n 3, 1) := by decide +kernel
theorem dX7_nextOnWalk_71 : decode cX7_nextOnWalk 71 = .ok (.iinc 4 1, 3) := by decide +kernel
theorem dX7_nextOnWalk_74 : decode cX7_nextOnWalk 74 = .ok (.goto (-69), 3) := by decide +kernel
theorem dX7_nextOnWalk_77 : decode cX7_nextOnWalk 77 = .ok (.iload_n 3, 1) := by decide +kernel
theorem dX7_nextOnWalk_78 : decode cX7_nextOnWalk 78 = .ok (.ireturn, 1) := by decide +kernel
theorem dX7_farEnd_0 : decode cX7_farEnd 0 = .ok (.aload_n 0, 1) := by decide +kernel
theorem dX7_farEnd_1 : decode cX7_farEnd 1 = .ok (.getfield 9, 3) := by decide +kernel
theorem dX7_farEnd_4 : decode cX7_farEnd 4 = .ok (.iload_n 1, 1) := by decide +kernel
theorem dX7_farEnd_5 : decode cX7_farEnd 5 = .ok (.iaload, 1) := by decide +kernel
theorem dX7_farEnd_6 : decode cX7_farEnd 6 = .ok (.iload_n 2, 1) := by decide +kernel
theorem dX7_farEnd_7 : decode cX7_farEnd 7 = .ok (.if_icmp .ne 10, 3) := by decide +kernel
theorem dX7_farEnd_10 : decode cX7_farEnd 10 = .ok (.aload_n 0, 1) := by decide +kernel
theorem dX7_farEnd_11 : decode cX7_farEnd 11 = .ok (.getfield 15, 3) := by decide +kernel
theorem dX7_farEnd_14 : decode cX7_farEnd 14 = .ok (.iload_n 1, 1) := by decide +kernel
theorem dX7_farEnd_15 : decode cX7_farEnd 15 = .ok (.iaload, 1) := by decide +kernel
theorem dX7_farEnd_16 : decode cX7_farEnd 16 = .ok (.ireturn, 1) := by decide +kernel
theorem dX7_farEnd_17 : decode cX7_farEnd 17 = .ok (.aload_n 0, 1) := by decide +kernel
theorem dX7_farEnd_18 : decode cX7_farEnd 18 = .ok (.getfield 15, 3) := by decide +kernel
theorem dX7_farEnd_21 : decode cX7_farEnd 21 = .ok (.iload_n 1, 1) := by decide +kernel
theorem dX7_farEnd_22 : decode cX7_farEnd 22 = .ok (.iaload, 1) := by decide +kernel
theorem dX7_farEnd_23 : decode cX7_farEnd 23 = .ok (.iload_n 2, 1) := by decide +kernel
theorem dX7_farEnd_24 : decode cX7_farEnd 24 = .ok (.if_icmp .ne 12, 3) := by decide +kernel
theorem dX7_farEnd_27 : decode cX7_farEnd 27 = .ok (.aload_n 0, 1) := by decide +kernel
theorem dX7_farEnd_28 : decode cX7_farEnd 28 = .ok (.getfield 9, 3) := by decide +kernel
theorem dX7_farEnd_31 : decode cX7_farEnd 31 = .ok (.iload_n 1, 1) := by decide +kernel
theorem dX7_farEnd_32 : decode cX7_farEnd 32 = .ok (.iaload, 1) := by decide +kernel
theorem dX7_farEnd_33 : decode cX7_farEnd 33 = .ok (.goto 4, 3) := by decide +kernel
theorem dX7_farEnd_36 : decode cX7_farEnd 36 = .ok (.iconst (-1), 1) := by decide +kernel
theorem dX7_farEnd_37 : decode cX7_farEnd 37 = .ok (.ireturn, 1) := by decide +kernel
theorem dX8_init_0 : decode cX8_init 0 = .ok (.aload_n 0, 1) := by decide +kernel
theorem dX8_init_1 : decode cX8_init 1 = .ok (.invokespecial 3, 3) := by decide +kernel
theorem dX8_init_4 : decode cX8_init 4 = .ok (.aload_n 0, 1) := by decide +kernel
theorem dX8_init_5 : decode cX8_init 5 = .ok (.bipush 66, 2) := by decide +kernel
theorem dX8_init_7 : decode cX8_init 7 = .ok (.newarray .long, 2) := by decide +kernel
theorem dX8_init_9 : decode cX8_init 9 = .ok (.putfield 9, 3) := by decide +kernel
theorem dX8_init_12 : decode cX8_init 12 = .ok (.aload_n 0, 1) := by decide +kernel
theorem dX8_init_13 : decode cX8_init 13 = .ok (.bipush 12, 2) := by decide +kernel
theorem dX8_init_15 : decode cX8_init 15 = .ok (.newarray .int, 2) := by decide +kernel
theorem dX8_init_17 : decode cX8_init 17 = .ok (.putfield 15, 3) := by decide +kernel
theorem dX8_init_20 : decode cX8_init 20 = .ok (.aload_n 0, 1) := by decide +kernel
theorem dX8_init_21 : decode cX8_init 21 = .ok (.bipush 12, 2) := by decide +kernel
theorem dX8_init_23 : decode cX8_init 23 = .ok (.newarray .int, 2) := by decide +kernel
theorem dX8_init_25 : decode cX8_init 25 = .ok (.putfield 19, 3) := by decide +kernel
theorem dX8_init_28 : decode cX8_init 28 = .ok (.aload_n 0, 1) := by decide +kernel
theorem dX8_init_29 : decode cX8_init 29 = .ok (.iconst 0, 1) := by decide +kernel
theorem dX8_init_30 : decode cX8_init 30 = .ok (.putfield 22, 3) := by decide +kernel
theorem dX8_init_33 : decode cX8_init 33 = .ok (.aload_n 0, 1) := by decide +kernel
theorem dX8_init_34 : decode cX8_init 34 = .ok (.iconst 0, 1) := by decide +kernel
theorem dX8_init_35 : decode cX8_init 35 = .ok (.putfield 26, 3) := by decide +kernel
theorem dX8_init_38 : decode cX8_init 38 = .ok (.aload_n 0, 1) := by decide +kernel
theorem dX8_init_39 : decode cX8_init 39 = .ok (.iconst 0, 1) := by decide +kernel
theorem dX8_init_40 : decode cX8_init 40 = .ok (.putfield 29, 3) := by decide +kernel
theorem dX8_init_43 : decode cX8_init 43 = .ok (.aload_n 0, 1) := by decide +kernel
theorem dX8_init_44 : decode cX8_init 44 = .ok (.lconst 0, 1) := by decide +kernel
theorem dX8_init_45 : decode cX8_init 45 = .ok (.putfield 32, 3) := by decide +kernel
theorem dX8_init_48 : decode cX8_init 48 = .ok (.aload_n 0, 1) := by decide +kernel
theorem dX8_init_49 : decode cX8_init 49 = .ok (.aload_n 1, 1) := by decide +kernel
theorem dX8_init_50 : decode cX8_init 50 = .ok (.putfield 36, 3) := by decide +kernel
theorem dX8_init_53 : decode cX8_init 53 = .ok (.aload_n 0, 1) := by decide +kernel
theorem dX8_init_54 : decode cX8_init 54 = .ok (.aload_n 2, 1) := by decide +kernel
theorem dX8_init_55 : decode cX8_init 55 = .ok (.putfield 40, 3) := by decide +kernel
theorem dX8_init_58 : decode cX8_init 58 = .ok (.return_, 1) := by decide +kernel
set_option maxRecDepth 20000 in
theorem ggX8_rank_X2_isLive : GoodIn wsX8_rank wsX2_isLive := goodIn_r _ [8, 9, 10, 11, 12, 7, 13, 14, 15, 16, 17, 41, 42, 43, 44, 45, 46, 47, 48, 49, 50, 51] (by decide +kernel) (by decide +kernel)
set_option maxRecDepth 20000 in
theorem gX8_rank_X2_isLive : GoodIn wsX8_rank (wsV RX8 49 RX2 yX2_isLive wsX2_isLive) := goodIn_app (goodIn_of _ (by decide +kernel)) ggX8_rank_X2_isLive
set_option maxRecDepth 20000 in
theorem ggX8_rank_X8_keyOf : GoodIn wsX8_rank wsX8_keyOf := goodIn_r _ [22, 23, 2, 24, 25, 26, 16, 27, 32, 33, 34, 35, 36, 37, 38, 39, 40, 41, 42, 43, 44, 45, 46, 47, 48, 49, 50, 51] (by decide +kernel) (by decide +kernel)
set_option maxRecDepth 20000 in
theorem gX8_rank_X8_keyOf : GoodIn wsX8_rank (wsV RX8 53 RX8 yX8_keyOf wsX8_keyOf) := goodIn_app (goodIn_of _ (by decide +kernel)) ggX8_rank_X8_keyOf
set_option maxRecDepth 20000 in
theorem ggX8_rank_X8_sort : GoodIn wsX8_rank wsX8_sort := goodIn_r _ [31, 1, 3, 32, 33, 34, 35, 36, 37, 38, 39, 40] (by decide +kernel) (by decide +kernel)
set_option maxRecDepth 20000 in
theorem gX8_rank_X8_sort : GoodIn wsX8_rank (wsV RX8 57 RX8 yX8_sort wsX8_sort) := goodIn_app (goodIn_of _ (by decide +kernel)) ggX8_rank_X8_sort
theorem dX8_rank_0 : decode cX8_rank 0 = .ok (.aload_n 0, 1) := by decide +kernel
theorem dX8_rank_1 : decode cX8_rank 1 = .ok (.iconst 0, 1) := by decide +kernel
theorem dX8_rank_2 : decode cX8_rank 2 = .ok (.putfield 22, 3) := by decide +kernel
theorem dX8_rank_5 : decode cX8_rank 5 = .ok (.iconst 0, 1) := by decide +kernel
theorem dX8_rank_6 : decode cX8_rank 6 = .ok (.istore_n 1, 1) := by decide +kernel
theorem dX8_rank_7 : decode cX8_rank 7 = .ok (.iload_n 1, 1) := by decide +kernel
theorem dX8_rank_8 : decode cX8_rank 8 = .ok (.aload_n 0, 1) := by decide +kernel
theorem dX8_rank_9 : decode cX8_rank 9 = .ok (.getfield 36, 3) := by decide +kernel
theorem dX8_rank_12 : decode cX8_rank 12 = .ok (.getfield 44, 3) := by decide +kernel
theorem dX8_rank_15 : decode cX8_rank 15 = .ok (.if_icmp .ge 77, 3) := by decide +kernel
theorem dX8_rank_18 : decode cX8_rank 18 = .ok (.iload_n 1, 1) := by decide +kernel
theorem dX8_rank_19 : decode cX8_rank 19 = .ok (.iconst 1, 1) := by decide +kernel
theorem dX8_rank_20 : decode cX8_rank 20 = .ok (.iadd, 1) := by decide +kernel
theorem dX8_rank_21 : decode cX8_rank 21 = .ok (.istore_n 2, 1) := by decide +kernel
theorem dX8_rank_22 : decode cX8_rank 22 = .ok (.iload_n 2, 1) := by decide +kernel
theorem dX8_rank_23 : decode cX8_rank 23 = .ok (.aload_n 0, 1) := by decide +kernel
theorem dX8_rank_24 : decode cX8_rank 24 = .ok (.getfield 36, 3) := by decide +kernel
theorem dX8_rank_27 : decode cX8_rank 27 = .ok (.getfield 44, 3) := by decide +kernel
theorem dX8_rank_30 : decode cX8_rank 30 = .ok (.if_icmp .ge 56, 3) := by decide +kernel
theorem dX8_rank_33 : decode cX8_rank 33 = .ok (.aload_n 0, 1) := by decide +kernel
theorem dX8_rank_34 : decode cX8_rank 34 = .ok (.getfield 36, 3) := by decide +kernel
theorem dX8_rank_37 : decode cX8_rank 37 = .ok (.iload_n 1, 1) := by decide +kernel
theorem dX8_rank_38 : decode cX8_rank 38 = .ok (.invokevirtual 49, 3) := by decide +kernel
theorem dX8_rank_41 : decode cX8_rank 41 = .ok (.ifCond .eq 39, 3) := by decide +kernel
theorem dX8_rank_44 : decode cX8_rank 44 = .ok (.aload_n 0, 1) := by decide +kernel
theorem dX8_rank_45 : decode cX8_rank 45 = .ok (.getfield 36, 3) := by decide +kernel
theorem dX8_rank_48 : decode cX8_rank 48 = .ok (.iload_n 2, 1) := by decide +kernel
theorem dX8_rank_49 : decode cX8_rank 49 = .ok (.invokevirtual 49, 3) := by decide +kernel
theorem dX8_rank_52 : decode cX8_rank 52 = .ok (.ifCond .eq 28, 3) := by decide +kernel
theorem dX8_rank_55 : decode cX8_rank 55 = .ok (.aload_n 0, 1) := by decide +kernel
theorem dX8_rank_56 : decode cX8_rank 56 = .ok (.getfield 9, 3) := by decide +kernel
theorem dX8_rank_59 : decode cX8_rank 59 = .ok (.aload_n 0, 1) := by decide +kernel
theorem dX8_rank_60 : decode cX8_rank 60 = .ok (.getfield 22, 3) := by decide +kernel
theorem dX8_rank_63 : decode cX8_rank 63 = .ok (.aload_n 0, 1) := by decide +kernel
theorem dX8_rank_64 : decode cX8_rank 64 = .ok (.iload_n 1, 1) := by decide +kernel
theorem dX8_rank_65 : decode cX8_rank 65 = .ok (.iload_n 2, 1) := by decide +kernel
theorem dX8_rank_66 : decode cX8_rank 66 = .ok (.invokevirtual 53, 3) := by decide +kernel
theorem dX8_rank_69 : decode cX8_rank 69 = .ok (.lastore, 1) := by decide +kernel
theorem dX8_rank_70 : decode cX8_rank 70 = .ok (.aload_n 0, 1) := by decide +kernel
theorem dX8_rank_71 : decode cX8_rank 71 = .ok (.dup, 1) := by decide +kernel
theorem dX8_rank_72 : decode cX8_rank 72 = .ok (.getfield 22, 3) := by decide +kernel
theorem dX8_rank_75 : decode cX8_rank 75 = .ok (.iconst 1, 1) := by decide +kernel
theorem dX8_rank_76 : decode cX8_rank 76 = .ok (.iadd, 1) := by decide +kernel
theorem dX8_rank_77 : decode cX8_rank 77 = .ok (.putfield 22, 3) := by decide +kernel
theorem dX8_rank_80 : decode cX8_rank 80 = .ok (.iinc 2 1, 3) := by decide +kernel
theorem dX8_rank_83 : decode cX8_rank 83 = .ok (.goto (-61), 3) := by decide +kernel
theorem dX8_rank_86 : decode cX8_rank 86 = .ok (.iinc 1 1, 3) := by decide +kernel
theorem dX8_rank_89 : decode cX8_rank 89 = .ok (.goto (-82), 3) := by decide +kernel
theorem dX8_rank_92 : decode cX8_rank 92 = .ok (.aload_n 0, 1) := by decide +kernel
theorem dX8_rank_93 : decode cX8_rank 93 = .ok (.invokevirtual 57, 3) := by decide +kernel
theorem dX8_rank_96 : decode cX8_rank 96 = .ok (.return_, 1) := by decide +kernel
set_option maxRecDepth 20000 in
theorem ggX8_rankAnew_X8_pairAt : GoodIn wsX8_rankAnew wsX8_pairAt := goodIn_r _ [7, 2, 8, 28, 29, 30, 31, 32, 33, 34, 35, 36] (by decide +kernel) (by decide +kernel)
set_option maxRecDepth 20000 in
theorem gX8_rankAnew_X8_pairAt : GoodIn wsX8_rankAnew (wsV RX8 60 RX8 yX8_pairAt wsX8_pairAt) := goodIn_app (goodIn_of _ (by decide +kernel)) ggX8_rankAnew_X8_pairAt
set_option maxRecDepth 20000 in
theorem ggX8_rankAnew_X9_lesserOf : GoodIn wsX8_rankAnew wsX9_lesserOf := goodIn_r _ [11] (by decide +kernel) (by decide +kernel)
set_option maxRecDepth 20000 in
theorem gX8_rankAnew_X9_lesserOf_n64 : GoodIn wsX8_rankAnew (wsX9_lesserOf) := ggX8_rankAnew_X9_lesserOf
set_option maxRecDepth 20000 in
theorem ggX8_rankAnew_X9_greaterOf : GoodIn wsX8_rankAnew wsX9_greaterOf := goodIn_r _ [13] (by decide +kernel) (by decide +kernel)
set_option maxRecDepth 20000 in
theorem gX8_rankAnew_X9_greaterOf_n67 : GoodIn wsX8_rankAnew (wsX9_greaterOf) := ggX8_rankAnew_X9_greaterOf
set_option maxRecDepth 20000 in
theorem ggX8_rankAnew_X8_keyOf : GoodIn wsX8_rankAnew wsX8_keyOf := goodIn_r _ [17, 18, 19, 20, 21, 22, 10, 23, 28, 29, 30, 31, 32, 33, 34, 35, 36, 37, 38, 39, 40, 41, 42, 43, 44, 45, 46, 47] (by decide +kernel) (by decide +kernel)
set_option maxRecDepth 20000 in
theorem gX8_rankAnew_X8_keyOf : GoodIn wsX8_rankAnew (wsV RX8 53 RX8 yX8_keyOf wsX8_keyOf) := goodIn_app (goodIn_of _ (by decide +kernel)) ggX8_rankAnew_X8_keyOf
set_option maxRecDepth 20000 in
theorem ggX8_rankAnew_X8_sort : GoodIn wsX8_rankAnew wsX8_sort := goodIn_r _ [27, 1, 2, 28, 29, 30, 31, 32, 33, 34, 35, 36] (by decide +kernel) (by decide +kernel)
set_option maxRecDepth 20000 in
theorem gX8_rankAnew_X8_sort : GoodIn wsX8_rankAnew (wsV RX8 57 RX8 yX8_sort wsX8_sort) := goodIn_app (goodIn_of _ (by decide +kernel)) ggX8_rankAnew_X8_sort
theorem dX8_rankAnew_0 : decode cX8_rankAnew 0 = .ok (.iconst 0, 1) := by decide +kernel
theorem dX8_rankAnew_1 : decode cX8_rankAnew 1 = .ok (.istore_n 1, 1) := by decide +kernel
theorem dX8_rankAnew_2 : decode cX8_rankAnew 2 = .ok (.iload_n 1, 1) := by decide +kernel
theorem dX8_rankAnew_3 : decode cX8_rankAnew 3 = .ok (.aload_n 0, 1) := by decide +kernel
theorem dX8_rankAnew_4 : decode cX8_rankAnew 4 = .ok (.getfield 22, 3) := by decide +kernel
theorem dX8_rankAnew_7 : decode cX8_rankAnew 7 = .ok (.if_icmp .ge 35, 3) := by decide +kernel
theorem dX8_rankAnew_10 : decode cX8_rankAnew 10 = .ok (.aload_n 0, 1) := by decide +kernel
theorem dX8_rankAnew_11 : decode cX8_rankAnew 11 = .ok (.getfield 9, 3) := by decide +kernel
theorem dX8_rankAnew_14 : decode cX8_rankAnew 14 = .ok (.iload_n 1, 1) := by decide +kernel
theorem dX8_rankAnew_15 : decode cX8_rankAnew 15 = .ok (.aload_n 0, 1) := by decide +kernel
theorem dX8_rankAnew_16 : decode cX8_rankAnew 16 = .ok (.aload_n 0, 1) := by decide +kernel
theorem dX8_rankAnew_17 : decode cX8_rankAnew 17 = .ok (.iload_n 1, 1) := by decide +kernel
theorem dX8_rankAnew_18 : decode cX8_rankAnew 18 = .ok (.invokevirtual 60, 3) := by decide +kernel
theorem dX8_rankAnew_21 : decode cX8_rankAnew 21 = .ok (.invokestatic 64, 3) := by decide +kernel
theorem dX8_rankAnew_24 : decode cX8_rankAnew 24 = .ok (.aload_n 0, 1) := by decide +kernel
theorem dX8_rankAnew_25 : decode cX8_rankAnew 25 = .ok (.iload_n 1, 1) := by decide +kernel
theorem dX8_rankAnew_26 : decode cX8_rankAnew 26 = .ok (.invokevirtual 60, 3) := by decide +kernel
theorem dX8_rankAnew_29 : decode cX8_rankAnew 29 = .ok (.invokestatic 67, 3) := by decide +kernel
theorem dX8_rankAnew_32 : decode cX8_rankAnew 32 = .ok (.invokevirtual 53, 3) := by decide +kernel
theorem dX8_rankAnew_35 : decode cX8_rankAnew 35 = .ok (.lastore, 1) := by decide +kernel
theorem dX8_rankAnew_36 : decode cX8_rankAnew 36 = .ok (.iinc 1 1, 3) := by decide +kernel
theorem dX8_rankAnew_39 : decode cX8_rankAnew 39 = .ok (.goto (-37), 3) := by decide +kernel
theorem dX8_rankAnew_42 : decode cX8_rankAnew 42 = .ok (.aload_n 0, 1) := by decide +kernel
theorem dX8_rankAnew_43 : decode cX8_rankAnew 43 = .ok (.invokevirtual 57, 3) := by decide +kernel
theorem dX8_rankAnew_46 : decode cX8_rankAnew 46 = .ok (.return_, 1) := by decide +kernel
set_option maxRecDepth 20000 in
theorem ggX8_keyOf_X9_pairOf : GoodIn wsX8_keyOf wsX9_pairOf := goodIn_r _ [7] (by decide +kernel) (by decide +kernel)
set_option maxRecDepth 20000 in
theorem gX8_keyOf_X9_pairOf_n82 : GoodIn wsX8_keyOf (wsX9_pairOf) := ggX8_keyOf_X9_pairOf
theorem dX8_keyOf_0 : decode cX8_keyOf 0 = .ok (.ldc2_w 70, 3) := by decide +kernel
theorem dX8_keyOf_3 : decode cX8_keyOf 3 = .ok (.lstore_n 3, 1) := by decide +kernel
theorem dX8_keyOf_4 : decode cX8_keyOf 4 = .ok (.aload_n 0, 1) := by decide +kernel
theorem dX8_keyOf_5 : decode cX8_keyOf 5 = .ok (.getfield 36, 3) := by decide +kernel
theorem dX8_keyOf_8 : decode cX8_keyOf 8 = .ok (.getfield 72, 3) := by decide +kernel
theorem dX8_keyOf_11 : decode cX8_keyOf 11 = .ok (.iload_n 1, 1) := by decide +kernel
theorem dX8_keyOf_12 : decode cX8_keyOf 12 = .ok (.aaload, 1) := by decide +kernel
theorem dX8_keyOf_13 : decode cX8_keyOf 13 = .ok (.iload_n 2, 1) := by decide +kernel
theorem dX8_keyOf_14 : decode cX8_keyOf 14 = .ok (.iaload, 1) := by decide +kernel
theorem dX8_keyOf_15 : decode cX8_keyOf 15 = .ok (.ldc 76, 2) := by decide +kernel
theorem dX8_keyOf_17 : decode cX8_keyOf 17 = .ok (.if_icmp .eq 38, 3) := by decide +kernel
theorem dX8_keyOf_20 : decode cX8_keyOf 20 = .ok (.aload_n 0, 1) := by decide +kernel
theorem dX8_keyOf_21 : decode cX8_keyOf 21 = .ok (.getfield 36, 3) := by decide +kernel
theorem dX8_keyOf_24 : decode cX8_keyOf 24 = .ok (.getfield 72, 3) := by decide +kernel
theorem dX8_keyOf_27 : decode cX8_keyOf 27 = .ok (.iload_n 1, 1) := by decide +kernel
theorem dX8_keyOf_28 : decode cX8_keyOf 28 = .ok (.aaload, 1) := by decide +kernel
theorem dX8_keyOf_29 : decode cX8_keyOf 29 = .ok (.iload_n 2, 1) := by decide +kernel
theorem dX8_keyOf_30 : decode cX8_keyOf 30 = .ok (.iaload, 1) := by decide +kernel
theorem dX8_keyOf_31 : decode cX8_keyOf 31 = .ok (.i2l, 1) := by decide +kernel
theorem dX8_keyOf_32 : decode cX8_keyOf 32 = .ok (.aload_n 0, 1) := by decide +kernel
theorem dX8_keyOf_33 : decode cX8_keyOf 33 = .ok (.getfield 36, 3) := by decide +kernel
theorem dX8_keyOf_36 : decode cX8_keyOf 36 = .ok (.getfield 77, 3) := by decide +kernel
theorem dX8_keyOf_39 : decode cX8_keyOf 39 = .ok (.iload_n 1, 1) := by decide +kernel
theorem dX8_keyOf_40 : decode cX8_keyOf 40 = .ok (.iaload, 1) := by decide +kernel
theorem dX8_keyOf_41 : decode cX8_keyOf 41 = .ok (.i2l, 1) := by decide +kernel
theorem dX8_keyOf_42 : decode cX8_keyOf 42 = .ok (.ladd, 1) := by decide +kernel
theorem dX8_keyOf_43 : decode cX8_keyOf 43 = .ok (.aload_n 0, 1) := by decide +kernel
theorem dX8_keyOf_44 : decode cX8_keyOf 44 = .ok (.getfield 36, 3) := by decide +kernel
theorem dX8_keyOf_47 : decode cX8_keyOf 47 = .ok (.getfield 77, 3) := by decide +kernel
theorem dX8_keyOf_50 : decode cX8_keyOf 50 = .ok (.iload_n 2, 1) := by decide +kernel
theorem dX8_keyOf_51 : decode cX8_keyOf 51 = .ok (.iaload, 1) := by decide +kernel
theorem dX8_keyOf_52 : decode cX8_keyOf 52 = .ok (.i2l, 1) := by decide +kernel
theorem dX8_keyOf_53 : decode cX8_keyOf 53 = .ok (.ladd, 1) := by decide +kernel
theorem dX8_keyOf_54 : decode cX8_keyOf 54 = .ok (.lstore_n 3, 1) := by decide +kernel
theorem dX8_keyOf_55 : decode cX8_keyOf 55 = .ok (.lload_n 3, 1) := by decide +kernel
theorem dX8_keyOf_56 : decode cX8_keyOf 56 = .ok (.ldc2_w 80, 3) := by decide +kernel
theorem dX8_keyOf_59 : decode cX8_keyOf 59 = .ok (.lmul, 1) := by decide +kernel
theorem dX8_keyOf_60 : decode cX8_keyOf 60 = .ok (.iload_n 1, 1) := by decide +kernel
theorem dX8_keyOf_61 : decode cX8_keyOf 61 = .ok (.iload_n 2, 1) := by decide +kernel
theorem dX8_keyOf_62 : decode cX8_keyOf 62 = .ok (.invokestatic 82, 3) := by decide +kernel
theorem dX8_keyOf_65 : decode cX8_keyOf 65 = .ok (.i2l, 1) := by decide +kernel
theorem dX8_keyOf_66 : decode cX8_keyOf 66 = .ok (.ladd, 1) := by decide +kernel
theorem dX8_keyOf_67 : decode cX8_keyOf 67 = .ok (.lreturn, 1) := by decide +kernel
theorem dX8_sort_0 : decode cX8_sort 0 = .ok (.iconst 1, 1) := by decide +kernel
theorem dX8_sort_1 : decode cX8_sort 1 = .ok (.istore_n 1, 1) := by decide +kernel
theorem dX8_sort_2 : decode cX8_sort 2 = .ok (.iload_n 1, 1) := by decide +kernel
theorem dX8_sort_3 : decode cX8_sort 3 = .ok (.aload_n 0, 1) := by decide +kernel
theorem dX8_sort_4 : decode cX8_sort 4 = .ok (.getfield 22, 3) := by decide +kernel
theorem dX8_sort_7 : decode cX8_sort 7 = .ok (.if_icmp .ge 68, 3) := by decide +kernel
theorem dX8_sort_10 : decode cX8_sort 10 = .ok (.aload_n 0, 1) := by decide +kernel
theorem dX8_sort_11 : decode cX8_sort 11 = .ok (.getfield 9, 3) := by decide +kernel
theorem dX8_sort_14 : decode cX8_sort 14 = .ok (.iload_n 1, 1) := by decide +kernel
theorem dX8_sort_15 : decode cX8_sort 15 = .ok (.laload, 1) := by decide +kernel
theorem dX8_sort_16 : decode cX8_sort 16 = .ok (.lstore_n 2, 1) := by decide +kernel
theorem dX8_sort_17 : decode cX8_sort 17 = .ok (.iload_n 1, 1) := by decide +kernel
theorem dX8_sort_18 : decode cX8_sort 18 = .ok (.istore 4, 2) := by decide +kernel
theorem dX8_sort_20 : decode cX8_sort 20 = .ok (.iload 4, 2) := by decide +kernel
theorem dX8_sort_22 : decode cX8_sort 22 = .ok (.ifCond .le 39, 3) := by decide +kernel
theorem dX8_sort_25 : decode cX8_sort 25 = .ok (.aload_n 0, 1) := by decide +kernel
theorem dX8_sort_26 : decode cX8_sort 26 = .ok (.getfield 9, 3) := by decide +kernel
theorem dX8_sort_29 : decode cX8_sort 29 = .ok (.iload 4, 2) := by decide +kernel
theorem dX8_sort_31 : decode cX8_sort 31 = .ok (.iconst 1, 1) := by decide +kernel
theorem dX8_sort_32 : decode cX8_sort 32 = .ok (.isub, 1) := by decide +kernel
theorem dX8_sort_33 : decode cX8_sort 33 = .ok (.laload, 1) := by decide +kernel
theorem dX8_sort_34 : decode cX8_sort 34 = .ok (.lload_n 2, 1) := by decide +kernel
theorem dX8_sort_35 : decode cX8_sort 35 = .ok (.lcmp, 1) := by decide +kernel
theorem dX8_sort_36 : decode cX8_sort 36 = .ok (.ifCond .le 25, 3) := by decide +kernel
theorem dX8_sort_39 : decode cX8_sort 39 = .ok (.aload_n 0, 1) := by decide +kernel
theorem dX8_sort_40 : decode cX8_sort 40 = .ok (.getfield 9, 3) := by decide +kernel
theorem dX8_sort_43 : decode cX8_sort 43 = .ok (.iload 4, 2) := by decide +kernel
theorem dX8_sort_45 : decode cX8_sort 45 = .ok (.aload_n 0, 1) := by decide +kernel
theorem dX8_sort_46 : decode cX8_sort 46 = .ok (.getfield 9, 3) := by decide +kernel
theorem dX8_sort_49 : decode cX8_sort 49 = .ok (.iload 4, 2) := by decide +kernel
theorem dX8_sort_51 : decode cX8_sort 51 = .ok (.iconst 1, 1) := by decide +kernel
theorem dX8_sort_52 : decode cX8_sort 52 = .ok (.isub, 1) := by decide +kernel
theorem dX8_sort_53 : decode cX8_sort 53 = .ok (.laload, 1) := by decide +kernel
theorem dX8_sort_54 : decode cX8_sort 54 = .ok (.lastore, 1) := by decide +kernel
theorem dX8_sort_55 : decode cX8_sort 55 = .ok (.iinc 4 (-1), 3) := by decide +kernel
theorem dX8_sort_58 : decode cX8_sort 58 = .ok (.goto (-38), 3) := by decide +kernel
theorem dX8_sort_61 : decode cX8_sort 61 = .ok (.aload_n 0, 1) := by decide +kernel
theorem dX8_sort_62 : decode cX8_sort 62 = .ok (.getfield 9, 3) := by decide +kernel
theorem dX8_sort_65 : decode cX8_sort 65 = .ok (.iload 4, 2) := by decide +kernel
theorem dX8_sort_67 : decode cX8_sort 67 = .ok (.lload_n 2, 1) := by decide +kernel
theorem dX8_sort_68 : decode cX8_sort 68 = .ok (.lastore, 1) := by decide +kernel
theorem dX8_sort_69 : decode cX8_sort 69 = .ok (.iinc 1 1, 3) := by decide +kernel
theorem dX8_sort_72 : decode cX8_sort 72 = .ok (.goto (-70), 3) := by decide +kernel
theorem dX8_sort_75 : decode cX8_sort 75 = .ok (.return_, 1) := by decide +kernel
theorem dX8_pairAt_0 : decode cX8_pairAt 0 = .ok (.aload_n 0, 1) := by decide +kernel
theorem dX8_pairAt_1 : decode cX8_pairAt 1 = .ok (.getfield 9, 3) := by decide +kernel
theorem dX8_pairAt_4 : decode cX8_pairAt 4 = .ok (.iload_n 1, 1) := by decide +kernel
theorem dX8_pairAt_5 : decode cX8_pairAt 5 = .ok (.laload, 1) := by decide +kernel
theorem dX8_pairAt_6 : decode cX8_pairAt 6 = .ok (.ldc2_w 86, 3) := by decide +kernel
theorem dX8_pairAt_9 : decode cX8_pairAt 9 = .ok (.land, 1) := by decide +kernel
theorem dX8_pairAt_10 : decode cX8_pairAt 10 = .ok (.l2i, 1) := by decide +kernel
theorem dX8_pairAt_11 : decode cX8_pairAt 11 = .ok (.ireturn, 1) := by decide +kernel
theorem dX8_pricedAt_0 : decode cX8_pricedAt 0 = .ok (.aload_n 0, 1) := by decide +kernel
theorem dX8_pricedAt_1 : decode cX8_pricedAt 1 = .ok (.getfield 9, 3) := by decide +kernel
theorem dX8_pricedAt_4 : decode cX8_pricedAt 4 = .ok (.iload_n 1, 1) := by decide +kernel
theorem dX8_pricedAt_5 : decode cX8_pricedAt 5 = .ok (.laload, 1) := by decide +kernel
theorem dX8_pricedAt_6 : decode cX8_pricedAt 6 = .ok (.bipush 8, 2) := by decide +kernel
theorem dX8_pricedAt_8 : decode cX8_pricedAt 8 = .ok (.lshr, 1) := by decide +kernel
theorem dX8_pricedAt_9 : decode cX8_pricedAt 9 = .ok (.lreturn, 1) := by decide +kernel
set_option maxRecDepth 20000 in
theorem ggX8_firstFreePair_X8_pairAt : GoodIn wsX8_firstFreePair wsX8_pairAt := goodIn_r _ [7, 8, 9, 24, 25, 26, 27, 28, 29, 30, 31, 32] (by decide +kernel) (by decide +kernel)
set_option maxRecDepth 20000 in
theorem gX8_firstFreePair_X8_pairAt : GoodIn wsX8_firstFreePair (wsV RX8 60 RX8 yX8_pairAt wsX8_pairAt) := goodIn_app (goodIn_of _ (by decide +kernel)) ggX8_firstFreePair_X8_pairAt
set_option maxRecDepth 20000 in
theorem ggX8_firstFreePair_X9_lesserOf : GoodIn wsX8_firstFreePair wsX9_lesserOf := goodIn_r _ [12] (by decide +kernel) (by decide +kernel)
set_option maxRecDepth 20000 in
theorem gX8_firstFreePair_X9_lesserOf_n64 : GoodIn wsX8_firstFreePair (wsX9_lesserOf) := ggX8_firstFreePair_X9_lesserOf
set_option maxRecDepth 20000 in
theorem ggX8_firstFreePair_X9_greaterOf : GoodIn wsX8_firstFreePair wsX9_greaterOf := goodIn_r _ [14] (by decide +kernel) (by decide +kernel)
set_option maxRecDepth 20000 in
theorem gX8_firstFreePair_X9_greaterOf_n67 : GoodIn wsX8_firstFreePair (wsX9_greaterOf) := ggX8_firstFreePair_X9_greaterOf
set_option maxRecDepth 20000 in
theorem ggX8_firstFreePair_X0_isFree : GoodIn wsX8_firstFreePair wsX0_isFree := goodIn_r _ [19, 20, 21, 22, 11, 23, 33, 34, 35, 36, 37, 38] (by decide +kernel) (by decide +kernel)
set_option maxRecDepth 20000 in
theorem gX8_firstFreePair_X0_isFree : GoodIn wsX8_firstFreePair (wsV RX8 88 RX0 yX0_isFree wsX0_isFree) := goodIn_app (goodIn_of _ (by decide +kernel)) ggX8_firstFreePair_X0_isFree
theorem dX8_firstFreePair_0 : decode cX8_firstFreePair 0 = .ok (.iconst 0, 1) := by decide +kernel
theorem dX8_firstFreePair_1 : decode cX8_firstFreePair 1 = .ok (.istore_n 1, 1) := by decide +kernel
theorem dX8_firstFreePair_2 : decode cX8_firstFreePair 2 = .ok (.iload_n 1, 1) := by decide +kernel
theorem dX8_firstFreePair_3 : decode cX8_firstFreePair 3 = .ok (.aload_n 0, 1) := by decide +kernel
theorem dX8_firstFreePair_4 : decode cX8_firstFreePair 4 = .ok (.getfield 22, 3) := by decide +kernel
theorem dX8_firstFreePair_7 : decode cX8_firstFreePair 7 = .ok (.if_icmp .ge 35, 3) := by decide +kernel
theorem dX8_firstFreePair_10 : decode cX8_firstFreePair 10 = .ok (.aload_n 0, 1) := by decide +kernel
theorem dX8_firstFreePair_11 : decode cX8_firstFreePair 11 = .ok (.iload_n 1, 1) := by decide +kernel
theorem dX8_firstFreePair_12 : decode cX8_firstFreePair 12 = .ok (.invokevirtual 60, 3) := by decide +kernel
theorem dX8_firstFreePair_15 : decode cX8_firstFreePair 15 = .ok (.istore_n 2, 1) := by decide +kernel
theorem dX8_firstFreePair_16 : decode cX8_firstFreePair 16 = .ok (.aload_n 0, 1) := by decide +kernel
theorem dX8_firstFreePair_17 : decode cX8_firstFreePair 17 = .ok (.getfield 40, 3) := by decide +kernel
theorem dX8_firstFreePair_20 : decode cX8_firstFreePair 20 = .ok (.iload_n 2, 1) := by decide +kernel
theorem dX8_firstFreePair_21 : decode cX8_firstFreePair 21 = .ok (.invokestatic 64, 3) := by decide +kernel
theorem dX8_firstFreePair_24 : decode cX8_firstFreePair 24 = .ok (.iload_n 2, 1) := by decide +kernel
theorem dX8_firstFreePair_25 : decode cX8_firstFreePair 25 = .ok (.invokestatic 67, 3) := by decide +kernel
theorem dX8_firstFreePair_28 : decode cX8_firstFreePair 28 = .ok (.invokevirtual 88, 3) := by decide +kernel
theorem dX8_firstFreePair_31 : decode cX8_firstFreePair 31 = .ok (.ifCond .eq 5, 3) := by decide +kernel
theorem dX8_firstFreePair_34 : decode cX8_firstFreePair 34 = .ok (.iload_n 2, 1) := by decide +kernel
theorem dX8_firstFreePair_35 : decode cX8_firstFreePair 35 = .ok (.ireturn, 1) := by decide +kernel
theorem dX8_firstFreePair_36 : decode cX8_firstFreePair 36 = .ok (.iinc 1 1, 3) := by decide +kernel
theorem dX8_firstFreePair_39 : decode cX8_firstFreePair 39 = .ok (.goto (-37), 3) := by decide +kernel
theorem dX8_firstFreePair_42 : decode cX8_firstFreePair 42 = .ok (.iconst (-1), 1) := by decide +kernel
theorem dX8_firstFreePair_43 : decode cX8_firstFreePair 43 = .ok (.ireturn, 1) := by decide +kernel
set_option maxRecDepth 20000 in
theorem ggX8_grow_X2_firstLive : GoodIn wsX8_grow wsX2_firstLive := goodIn_r _ [10, 11, 12, 13, 14, 15, 82, 83, 84, 85, 86, 87, 88, 89, 90, 91, 92] (by decide +kernel) (by decide +kernel)
set_option maxRecDepth 20000 in
theorem gX8_grow_X2_firstLive : GoodIn wsX8_grow (wsV RX8 94 RX2 yX2_firstLive wsX2_firstLive) := goodIn_app (goodIn_of _ (by decide +kernel)) ggX8_grow_X2_firstLive
set_option maxRecDepth 20000 in
theorem ggX8_grow_X8_takeOthers : GoodIn wsX8_grow wsX8_takeOthers := goodIn_r _ [20, 5, 21, 1, 4, 22, 23, 24, 9, 25, 12, 26, 27, 28, 29, 30, 31, 32, 33, 34, 35, 19, 36, 37, 38, 39, 14, 40, 41, 42, 13, 15, 43, 44, 45, 46, 47, 48, 49, 50, 51, 52, 53, 54, 55, 56, 57, 58, 59, 60, 61, 62, 63, 64, 65, 66, 67, 68, 3, 73, 74, 75, 76, 77, 78, 79, 80, 81, 82, 83, 84, 85, 86, 87, 88, 89, 90, 91, 92, 93, 94, 95, 96, 97, 98] (by decide +kernel) (by decide +kernel)
set_option maxRecDepth 20000 in
theorem gX8_grow_X8_takeOthers : GoodIn wsX8_grow (wsV RX8 98 RX8 yX8_takeOthers wsX8_takeOthers) := goodIn_app (goodIn_of _ (by decide +kernel)) ggX8_grow_X8_takeOthers
set_option maxRecDepth 20000 in
theorem ggX8_grow_X8_takeOfFirst : GoodIn wsX8_grow wsX8_takeOfFirst := goodIn_r _ [72, 21, 2, 33, 34, 35, 19, 36, 37, 38, 39, 14, 40, 43, 44, 45, 46, 47, 48, 41, 42, 49, 50, 51, 52, 53, 54, 13, 15, 55, 56, 57, 58, 59, 60, 61, 62, 63, 64, 65, 66, 67, 1, 68, 3, 4, 73, 74, 75, 76, 77, 78, 79, 80, 81, 93, 94, 95, 96, 97, 98] (by decide +kernel) (by decide +kernel)
set_option maxRecDepth 20000 in
theorem gX8_grow_X8_takeOfFirst : GoodIn wsX8_grow (wsV RX8 102 RX8 yX8_takeOfFirst wsX8_takeOfFirst) := goodIn_app (goodIn_of _ (by decide +kernel)) ggX8_grow_X8_takeOfFirst
theorem dX8_grow_0 : decode cX8_grow 0 = .ok (.aload_n 0, 1) := by decide +kernel
theorem dX8_grow_1 : decode cX8_grow 1 = .ok (.iconst 0, 1) := by decide +kernel
theorem dX8_grow_2 : decode cX8_grow 2 = .ok (.putfield 26, 3) := by decide +kernel
theorem dX8_grow_5 : decode cX8_grow 5 = .ok (.aload_n 0, 1) := by decide +kernel
theorem dX8_grow_6 : decode cX8_grow 6 = .ok (.iconst 0, 1) := by decide +kernel
theorem dX8_grow_7 : decode cX8_grow 7 = .ok (.putfield 29, 3) := by decide +kernel
theorem dX8_grow_10 : decode cX8_grow 10 = .ok (.aload_n 0, 1) := by decide +kernel
theorem dX8_grow_11 : decode cX8_grow 11 = .ok (.lconst 0, 1) := by decide +kernel
theorem dX8_grow_12 : decode cX8_grow 12 = .ok (.putfield 32, 3) := by decide +kernel
theorem dX8_grow_15 : decode cX8_grow 15 = .ok (.iconst 0, 1) := by decide +kernel
theorem dX8_grow_16 : decode cX8_grow 16 = .ok (.istore_n 1, 1) := by decide +kernel
theorem dX8_grow_17 : decode cX8_grow 17 = .ok (.iload_n 1, 1) := by decide +kernel
theorem dX8_grow_18 : decode cX8_grow 18 = .ok (.bipush 12, 2) := by decide +kernel
theorem dX8_grow_20 : decode cX8_grow 20 = .ok (.if_icmp .ge 18, 3) := by decide +kernel
theorem dX8_grow_23 : decode cX8_grow 23 = .ok (.aload_n 0, 1) := by decide +kernel
theorem dX8_grow_24 : decode cX8_grow 24 = .ok (.getfield 19, 3) := by decide +kernel
theorem dX8_grow_27 : decode cX8_grow 27 = .ok (.iload_n 1, 1) := by decide +kernel
theorem dX8_grow_28 : decode cX8_grow 28 = .ok (.iconst 1, 1) := by decide +kernel
theorem dX8_grow_29 : decode cX8_grow 29 = .ok (.iload_n 1, 1) := by decide +kernel
theorem dX8_grow_30 : decode cX8_grow 30 = .ok (.ishl, 1) := by decide +kernel
theorem dX8_grow_31 : decode cX8_grow 31 = .ok (.iastore, 1) := by decide +kernel
theorem dX8_grow_32 : decode cX8_grow 32 = .ok (.iinc 1 1, 3) := by decide +kernel
theorem dX8_grow_35 : decode cX8_grow 35 = .ok (.goto (-18), 3) := by decide +kernel
theorem dX8_grow_38 : decode cX8_grow 38 = .ok (.aload_n 0, 1) := by decide +kernel
theorem dX8_grow_39 : decode cX8_grow 39 = .ok (.getfield 36, 3) := by decide +kernel
theorem dX8_grow_42 : decode cX8_grow 42 = .ok (.invokevirtual 94, 3) := by decide +kernel
theorem dX8_grow_45 : decode cX8_grow 45 = .ok (.istore_n 1, 1) := by decide +kernel
theorem dX8_grow_46 : decode cX8_grow 46 = .ok (.aload_n 0, 1) := by decide +kernel
theorem dX8_grow_47 : decode cX8_grow 47 = .ok (.iload_n 1, 1) := by decide +kernel
theorem dX8_grow_48 : decode cX8_grow 48 = .ok (.iconst 1, 1) := by decide +kernel
theorem dX8_grow_49 : decode cX8_grow 49 = .ok (.invokevirtual 98, 3) := by decide +kernel
theorem dX8_grow_52 : decode cX8_grow 52 = .ok (.aload_n 0, 1) := by decide +kernel
theorem dX8_grow_53 : decode cX8_grow 53 = .ok (.iload_n 1, 1) := by decide +kernel
theorem dX8_grow_54 : decode cX8_grow 54 = .ok (.iconst 0, 1) := by decide +kernel
theorem dX8_grow_55 : decode cX8_grow 55 = .ok (.invokevirtual 98, 3) := by decide +kernel
theorem dX8_grow_58 : decode cX8_grow 58 = .ok (.aload_n 0, 1) := by decide +kernel
theorem dX8_grow_59 : decode cX8_grow 59 = .ok (.iload_n 1, 1) := by decide +kernel
theorem dX8_grow_60 : decode cX8_grow 60 = .ok (.iconst 1, 1) := by decide +kernel
theorem dX8_grow_61 : decode cX8_grow 61 = .ok (.invokevirtual 102, 3) := by decide +kernel
theorem dX8_grow_64 : decode cX8_grow 64 = .ok (.aload_n 0, 1) := by decide +kernel
theorem dX8_grow_65 : decode cX8_grow 65 = .ok (.iload_n 1, 1) := by decide +kernel
theorem dX8_grow_66 : decode cX8_grow 66 = .ok (.iconst 0, 1) := by decide +kernel
theorem dX8_grow_67 : decode cX8_grow 67 = .ok (.invokevirtual 102, 3) := by decide +kernel
theorem dX8_grow_70 : decode cX8_grow 70 = .ok (.return_, 1) := by decide +kernel
set_option maxRecDepth 20000 in
theorem ggX8_takeOthers_X2_liveCount : GoodIn wsX8_takeOthers wsX2_liveCount := goodIn_r _ [9, 10, 11, 12, 13, 14, 15, 16, 17, 68, 69, 70, 71, 72, 73, 74, 75, 76, 77, 78] (by decide +kernel) (by decide +kernel)
set_option maxRecDepth 20000 in
theorem gX8_takeOthers_X2_liveCount : GoodIn wsX8_takeOthers (wsV RX8 105 RX2 yX2_liveCount wsX2_liveCount) := goodIn_app (goodIn_of _ (by decide +kernel)) ggX8_takeOthers_X2_liveCount
set_option maxRecDepth 20000 in
theorem ggX8_takeOthers_X8_pairAt : GoodIn wsX8_takeOthers wsX8_pairAt := goodIn_r _ [22, 23, 24, 59, 60, 61, 62, 63, 64, 65, 66, 67] (by decide +kernel) (by decide +kernel)
set_option maxRecDepth 20000 in
theorem gX8_takeOthers_X8_pairAt : GoodIn wsX8_takeOthers (wsV RX8 60 RX8 yX8_pairAt wsX8_pairAt) := goodIn_app (goodIn_of _ (by decide +kernel)) ggX8_takeOthers_X8_pairAt
set_option maxRecDepth 20000 in
theorem ggX8_takeOthers_X9_lesserOf : GoodIn wsX8_takeOthers wsX9_lesserOf := goodIn_r _ [27] (by decide +kernel) (by decide +kernel)
set_option maxRecDepth 20000 in
theorem gX8_takeOthers_X9_lesserOf_n64 : GoodIn wsX8_takeOthers (wsX9_lesserOf) := ggX8_takeOthers_X9_lesserOf
set_option maxRecDepth 20000 in
theorem ggX8_takeOthers_X9_greaterOf : GoodIn wsX8_takeOthers wsX9_greaterOf := goodIn_r _ [29] (by decide +kernel) (by decide +kernel)
set_option maxRecDepth 20000 in
theorem gX8_takeOthers_X9_greaterOf_n67 : GoodIn wsX8_takeOthers (wsX9_greaterOf) := ggX8_takeOthers_X9_greaterOf
set_option maxRecDepth 20000 in
theorem ggX8_takeOthers_X9_isIn : GoodIn wsX8_takeOthers wsX9_isIn := goodIn_r _ [31] (by decide +kernel) (by decide +kernel)
set_option maxRecDepth 20000 in
theorem gX8_takeOthers_X9_isIn_n108 : GoodIn wsX8_takeOthers (wsX9_isIn) := ggX8_takeOthers_X9_isIn
set_option maxRecDepth 20000 in
theorem ggX8_takeOthers_X8_mayTake : GoodIn wsX8_takeOthers wsX8_mayTake := goodIn_r _ [35, 36, 37, 18, 19, 20, 21, 22, 23, 24, 25, 26, 27, 28, 29, 38, 39, 40, 41, 42, 43, 30, 31, 44, 45, 46, 47, 48, 49, 50, 51, 52, 59, 60, 61, 62, 63, 64, 65, 66, 67, 79, 80, 81, 82, 83, 84] (by decide +kernel) (by decide +kernel)
set_option maxRecDepth 20000 in
theorem gX8_takeOthers_X8_mayTake : GoodIn wsX8_takeOthers (wsV RX8 111 RX8 yX8_mayTake wsX8_mayTake) := goodIn_app (goodIn_of _ (by decide +kernel)) ggX8_takeOthers_X8_mayTake
set_option maxRecDepth 20000 in
theorem ggX8_takeOthers_X8_take : GoodIn wsX8_takeOthers wsX8_take := goodIn_r _ [56, 3, 57, 58, 4, 18, 19, 20, 21, 22, 23, 24, 49, 50, 51, 52, 25, 26, 27, 28, 29, 30, 31, 59, 60, 61, 62, 63, 64, 65, 66, 67] (by decide +kernel) (by decide +kernel)
set_option maxRecDepth 20000 in
theorem gX8_takeOthers_X8_take : GoodIn wsX8_takeOthers (wsV RX8 115 RX8 yX8_take wsX8_take) := goodIn_app (goodIn_of _ (by decide +kernel)) ggX8_takeOthers_X8_take
theorem dX8_takeOthers_0 : decode cX8_takeOthers 0 = .ok (.aload_n 0, 1) := by decide +kernel
theorem dX8_takeOthers_1 : decode cX8_takeOthers 1 = .ok (.getfield 36, 3) := by decide +kernel
theorem dX8_takeOthers_4 : decode cX8_takeOthers 4 = .ok (.invokevirtual 105, 3) := by decide +kernel
theorem dX8_takeOthers_7 : decode cX8_takeOthers 7 = .ok (.iconst 2, 1) := by decide +kernel
theorem dX8_takeOthers_8 : decode cX8_takeOthers 8 = .ok (.isub, 1) := by decide +kernel
theorem dX8_takeOthers_9 : decode cX8_takeOthers 9 = .ok (.istore_n 3, 1) := by decide +kernel
theorem dX8_takeOthers_10 : decode cX8_takeOthers 10 = .ok (.iconst 0, 1) := by decide +kernel
theorem dX8_takeOthers_11 : decode cX8_takeOthers 11 = .ok (.istore 4, 2) := by decide +kernel
theorem dX8_takeOthers_13 : decode cX8_takeOthers 13 = .ok (.iload 4, 2) := by decide +kernel
theorem dX8_takeOthers_15 : decode cX8_takeOthers 15 = .ok (.aload_n 0, 1) := by decide +kernel
theorem dX8_takeOthers_16 : decode cX8_takeOthers 16 = .ok (.getfield 22, 3) := by decide +kernel
theorem dX8_takeOthers_19 : decode cX8_takeOthers 19 = .ok (.if_icmp .ge 76, 3) := by decide +kernel
theorem dX8_takeOthers_22 : decode cX8_takeOthers 22 = .ok (.aload_n 0, 1) := by decide +kernel
theorem dX8_takeOthers_23 : decode cX8_takeOthers 23 = .ok (.getfield 26, 3) := by decide +kernel
theorem dX8_takeOthers_26 : decode cX8_takeOthers 26 = .ok (.iload_n 3, 1) := by decide +kernel
theorem dX8_takeOthers_27 : decode cX8_takeOthers 27 = .ok (.if_icmp .ge 68, 3) := by decide +kernel
theorem dX8_takeOthers_30 : decode cX8_takeOthers 30 = .ok (.aload_n 0, 1) := by decide +kernel
theorem dX8_takeOthers_31 : decode cX8_takeOthers 31 = .ok (.iload 4, 2) := by decide +kernel
theorem dX8_takeOthers_33 : decode cX8_takeOthers 33 = .ok (.invokevirtual 60, 3) := by decide +kernel
theorem dX8_takeOthers_36 : decode cX8_takeOthers 36 = .ok (.invokestatic 64, 3) := by decide +kernel
theorem dX8_takeOthers_39 : decode cX8_takeOthers 39 = .ok (.istore 5, 2) := by decide +kernel
theorem dX8_takeOthers_41 : decode cX8_takeOthers 41 = .ok (.aload_n 0, 1) := by decide +kernel
theorem dX8_takeOthers_42 : decode cX8_takeOthers 42 = .ok (.iload 4, 2) := by decide +kernel
theorem dX8_takeOthers_44 : decode cX8_takeOthers 44 = .ok (.invokevirtual 60, 3) := by decide +kernel
theorem dX8_takeOthers_47 : decode cX8_takeOthers 47 = .ok (.invokestatic 67, 3) := by decide +kernel
theorem dX8_takeOthers_50 : decode cX8_takeOthers 50 = .ok (.istore 6, 2) := by decide +kernel
theorem dX8_takeOthers_52 : decode cX8_takeOthers 52 = .ok (.iload 5, 2) := by decide +kernel
theorem dX8_takeOthers_54 : decode cX8_takeOthers 54 = .ok (.iload_n 1, 1) := by decide +kernel
theorem dX8_takeOthers_55 : decode cX8_takeOthers 55 = .ok (.if_icmp .eq 34, 3) := by decide +kernel
theorem dX8_takeOthers_58 : decode cX8_takeOthers 58 = .ok (.aload_n 0, 1) := by decide +kernel
theorem dX8_takeOthers_59 : decode cX8_takeOthers 59 = .ok (.getfield 19, 3) := by decide +kernel
theorem dX8_takeOthers_62 : decode cX8_takeOthers 62 = .ok (.iload 5, 2) := by decide +kernel
theorem dX8_takeOthers_64 : decode cX8_takeOthers 64 = .ok (.iaload, 1) := by decide +kernel
theorem dX8_takeOthers_65 : decode cX8_takeOthers 65 = .ok (.iload 6, 2) := by decide +kernel
theorem dX8_takeOthers_67 : decode cX8_takeOthers 67 = .ok (.invokestatic 108, 3) := by decide +kernel
theorem dX8_takeOthers_70 : decode cX8_takeOthers 70 = .ok (.ifCond .ne 19, 3) := by decide +kernel
theorem dX8_takeOthers_73 : decode cX8_takeOthers 73 = .ok (.aload_n 0, 1) := by decide +kernel
theorem dX8_takeOthers_74 : decode cX8_takeOthers 74 = .ok (.iload 4, 2) := by decide +kernel
theorem dX8_takeOthers_76 : decode cX8_takeOthers 76 = .ok (.iload_n 2, 1) := by decide +kernel
theorem dX8_takeOthers_77 : decode cX8_takeOthers 77 = .ok (.invokevirtual 111, 3) := by decide +kernel
theorem dX8_takeOthers_80 : decode cX8_takeOthers 80 = .ok (.ifCond .eq 9, 3) := by decide +kernel
theorem dX8_takeOthers_83 : decode cX8_takeOthers 83 = .ok (.aload_n 0, 1) := by decide +kernel
theorem dX8_takeOthers_84 : decode cX8_takeOthers 84 = .ok (.iload 4, 2) := by decide +kernel
theorem dX8_takeOthers_86 : decode cX8_takeOthers 86 = .ok (.invokevirtual 115, 3) := by decide +kernel
theorem dX8_takeOthers_89 : decode cX8_takeOthers 89 = .ok (.iinc 4 1, 3) := by decide +kernel
theorem dX8_takeOthers_92 : decode cX8_takeOthers 92 = .ok (.goto (-79), 3) := by decide +kernel
theorem dX8_takeOthers_95 : decode cX8_takeOthers 95 = .ok (.return_, 1) := by decide +kernel
set_option maxRecDepth 20000 in
theorem ggX8_takeOfFirst_X8_pairAt : GoodIn wsX8_takeOfFirst wsX8_pairAt := goodIn_r _ [7, 8, 9, 46, 47, 48, 49, 50, 51, 52, 53, 54] (by decide +kernel) (by decide +kernel)
set_option maxRecDepth 20000 in
theorem gX8_takeOfFirst_X8_pairAt : GoodIn wsX8_takeOfFirst (wsV RX8 60 RX8 yX8_pairAt wsX8_pairAt) := goodIn_app (goodIn_of _ (by decide +kernel)) ggX8_takeOfFirst_X8_pairAt
set_option maxRecDepth 20000 in
theorem ggX8_takeOfFirst_X9_lesserOf : GoodIn wsX8_takeOfFirst wsX9_lesserOf := goodIn_r _ [12] (by decide +kernel) (by decide +kernel)
set_option maxRecDepth 20000 in
theorem gX8_takeOfFirst_X9_lesserOf_n64 : GoodIn wsX8_takeOfFirst (wsX9_lesserOf) := ggX8_takeOfFirst_X9_lesserOf
set_option maxRecDepth 20000 in
theorem ggX8_takeOfFirst_X8_mayTake : GoodIn wsX8_takeOfFirst wsX8_mayTake := goodIn_r _ [16, 17, 18, 3, 4, 5, 6, 7, 8, 9, 10, 11, 12, 19, 20, 21, 22, 23, 24, 25, 26, 27, 28, 29, 30, 31, 32, 33, 34, 35, 36, 37, 46, 47, 48, 49, 50, 51, 52, 53, 54, 55, 56, 57, 58, 59, 60] (by decide +kernel) (by decide +kernel)
set_option maxRecDepth 20000 in
theorem gX8_takeOfFirst_X8_mayTake : GoodIn wsX8_takeOfFirst (wsV RX8 111 RX8 yX8_mayTake wsX8_mayTake) := goodIn_app (goodIn_of _ (by decide +kernel)) ggX8_takeOfFirst_X8_mayTake
set_option maxRecDepth 20000 in
theorem ggX8_takeOfFirst_X8_take : GoodIn wsX8_takeOfFirst wsX8_take := goodIn_r _ [41, 42, 43, 44, 45, 3, 4, 5, 6, 7, 8, 9, 34, 35, 36, 37, 10, 11, 12, 19, 20, 27, 28, 46, 47, 48, 49, 50, 51, 52, 53, 54] (by decide +kernel) (by decide +kernel)
set_option maxRecDepth 20000 in
theorem gX8_takeOfFirst_X8_take : GoodIn wsX8_takeOfFirst (wsV RX8 115 RX8 yX8_take wsX8_take) := goodIn_app (goodIn_of _ (by decide +kernel)) ggX8_takeOfFirst_X8_take
theorem dX8_takeOfFirst_0 : decode cX8_takeOfFirst 0 = .ok (.iconst 0, 1) := by decide +kernel
theorem dX8_takeOfFirst_1 : decode cX8_takeOfFirst 1 = .ok (.istore_n 3, 1) := by decide +kernel
theorem dX8_takeOfFirst_2 : decode cX8_takeOfFirst 2 = .ok (.iload_n 3, 1) := by decide +kernel
theorem dX8_takeOfFirst_3 : decode cX8_takeOfFirst 3 = .ok (.aload_n 0, 1) := by decide +kernel
theorem dX8_takeOfFirst_4 : decode cX8_takeOfFirst 4 = .ok (.getfield 22, 3) := by decide +kernel
theorem dX8_takeOfFirst_7 : decode cX8_takeOfFirst 7 = .ok (.if_icmp .ge 53, 3) := by decide +kernel
theorem dX8_takeOfFirst_10 : decode cX8_takeOfFirst 10 = .ok (.aload_n 0, 1) := by decide +kernel
theorem dX8_takeOfFirst_11 : decode cX8_takeOfFirst 11 = .ok (.getfield 29, 3) := by decide +kernel
theorem dX8_takeOfFirst_14 : decode cX8_takeOfFirst 14 = .ok (.iconst 2, 1) := by decide +kernel
theorem dX8_takeOfFirst_15 : decode cX8_takeOfFirst 15 = .ok (.if_icmp .ge 45, 3) := by decide +kernel
theorem dX8_takeOfFirst_18 : decode cX8_takeOfFirst 18 = .ok (.aload_n 0, 1) := by decide +kernel
theorem dX8_takeOfFirst_19 : decode cX8_takeOfFirst 19 = .ok (.iload_n 3, 1) := by decide +kernel
theorem dX8_takeOfFirst_20 : decode cX8_takeOfFirst 20 = .ok (.invokevirtual 60, 3) := by decide +kernel
theorem dX8_takeOfFirst_23 : decode cX8_takeOfFirst 23 = .ok (.invokestatic 64, 3) := by decide +kernel
theorem dX8_takeOfFirst_26 : decode cX8_takeOfFirst 26 = .ok (.iload_n 1, 1) := by decide +kernel
theorem dX8_takeOfFirst_27 : decode cX8_takeOfFirst 27 = .ok (.if_icmp .ne 27, 3) := by decide +kernel
theorem dX8_takeOfFirst_30 : decode cX8_takeOfFirst 30 = .ok (.aload_n 0, 1) := by decide +kernel
theorem dX8_takeOfFirst_31 : decode cX8_takeOfFirst 31 = .ok (.iload_n 3, 1) := by decide +kernel
theorem dX8_takeOfFirst_32 : decode cX8_takeOfFirst 32 = .ok (.iload_n 2, 1) := by decide +kernel
theorem dX8_takeOfFirst_33 : decode cX8_takeOfFirst 33 = .ok (.invokevirtual 111, 3) := by decide +kernel
theorem dX8_takeOfFirst_36 : decode cX8_takeOfFirst 36 = .ok (.ifCond .eq 18, 3) := by decide +kernel
theorem dX8_takeOfFirst_39 : decode cX8_takeOfFirst 39 = .ok (.aload_n 0, 1) := by decide +kernel
theorem dX8_takeOfFirst_40 : decode cX8_takeOfFirst 40 = .ok (.iload_n 3, 1) := by decide +kernel
theorem dX8_takeOfFirst_41 : decode cX8_takeOfFirst 41 = .ok (.invokevirtual 115, 3) := by decide +kernel
theorem dX8_takeOfFirst_44 : decode cX8_takeOfFirst 44 = .ok (.aload_n 0, 1) := by decide +kernel
theorem dX8_takeOfFirst_45 : decode cX8_takeOfFirst 45 = .ok (.dup, 1) := by decide +kernel
theorem dX8_takeOfFirst_46 : decode cX8_takeOfFirst 46 = .ok (.getfield 29, 3) := by decide +kernel
theorem dX8_takeOfFirst_49 : decode cX8_takeOfFirst 49 = .ok (.iconst 1, 1) := by decide +kernel
theorem dX8_takeOfFirst_50 : decode cX8_takeOfFirst 50 = .ok (.iadd, 1) := by decide +kernel
theorem dX8_takeOfFirst_51 : decode cX8_takeOfFirst 51 = .ok (.putfield 29, 3) := by decide +kernel
theorem dX8_takeOfFirst_54 : decode cX8_takeOfFirst 54 = .ok (.iinc 3 1, 3) := by decide +kernel
theorem dX8_takeOfFirst_57 : decode cX8_takeOfFirst 57 = .ok (.goto (-55), 3) := by decide +kernel
theorem dX8_takeOfFirst_60 : decode cX8_takeOfFirst 60 = .ok (.return_, 1) := by decide +kernel
set_option maxRecDepth 20000 in
theorem ggX8_mayTake_X8_pairAt : GoodIn wsX8_mayTake wsX8_pairAt := goodIn_r _ [7, 8, 9, 32, 33, 34, 35, 36, 37, 38, 39, 40] (by decide +kernel) (by decide +kernel)
set_option maxRecDepth 20000 in
theorem gX8_mayTake_X8_pairAt : GoodIn wsX8_mayTake (wsV RX8 60 RX8 yX8_pairAt wsX8_pairAt) := goodIn_app (goodIn_of _ (by decide +kernel)) ggX8_mayTake_X8_pairAt
set_option maxRecDepth 20000 in
theorem ggX8_mayTake_X9_lesserOf : GoodIn wsX8_mayTake wsX9_lesserOf := goodIn_r _ [12] (by decide +kernel) (by decide +kernel)
set_option maxRecDepth 20000 in
theorem gX8_mayTake_X9_lesserOf_n64 : GoodIn wsX8_mayTake (wsX9_lesserOf) := ggX8_mayTake_X9_lesserOf
set_option maxRecDepth 20000 in
theorem ggX8_mayTake_X9_greaterOf : GoodIn wsX8_mayTake wsX9_greaterOf := goodIn_r _ [14] (by decide +kernel) (by decide +kernel)
set_option maxRecDepth 20000 in
theorem gX8_mayTake_X9_greaterOf_n67 : GoodIn wsX8_mayTake (wsX9_greaterOf) := ggX8_mayTake_X9_greaterOf
set_option maxRecDepth 20000 in
theorem ggX8_mayTake_X0_isJoined : GoodIn wsX8_mayTake wsX0_isJoined := goodIn_r _ [19, 20, 21, 11, 22, 41, 42, 43, 44, 45, 46] (by decide +kernel) (by decide +kernel)
set_option maxRecDepth 20000 in
theorem gX8_mayTake_X0_isJoined : GoodIn wsX8_mayTake (wsV RX8 119 RX0 yX0_isJoined wsX0_isJoined) := goodIn_app (goodIn_of _ (by decide +kernel)) ggX8_mayTake_X0_isJoined
set_option maxRecDepth 20000 in
theorem ggX8_mayTake_X0_isParted : GoodIn wsX8_mayTake wsX0_isParted := goodIn_r _ [26, 27, 21, 11, 22, 41, 42, 43, 44, 45, 46] (by decide +kernel) (by decide +kernel)
set_option maxRecDepth 20000 in
theorem gX8_mayTake_X0_isParted : GoodIn wsX8_mayTake (wsV RX8 122 RX0 yX0_isParted wsX0_isParted) := goodIn_app (goodIn_of _ (by decide +kernel)) ggX8_mayTake_X0_isParted
set_option maxRecDepth 20000 in
theorem ggX8_mayTake_X8_pricedAt : GoodIn wsX8_mayTake wsX8_pricedAt := goodIn_r _ [31, 8, 32, 33, 34, 35, 36, 37, 38, 39, 40] (by decide +kernel) (by decide +kernel)
set_option maxRecDepth 20000 in
theorem gX8_mayTake_X8_pricedAt : GoodIn wsX8_mayTake (wsV RX8 125 RX8 yX8_pricedAt wsX8_pricedAt) := goodIn_app (goodIn_of _ (by decide +kernel)) ggX8_mayTake_X8_pricedAt
theorem dX8_mayTake_0 : decode cX8_mayTake 0 = .ok (.aload_n 0, 1) := by decide +kernel
theorem dX8_mayTake_1 : decode cX8_mayTake 1 = .ok (.iload_n 1, 1) := by decide +kernel
theorem dX8_mayTake_2 : decode cX8_mayTake 2 = .ok (.invokevirtual 60, 3) := by decide +kernel
theorem dX8_mayTake_5 : decode cX8_mayTake 5 = .ok (.invokestatic 64, 3) := by decide +kernel
theorem dX8_mayTake_8 : decode cX8_mayTake 8 = .ok (.istore_n 3, 1) := by decide +kernel
theorem dX8_mayTake_9 : decode cX8_mayTake 9 = .ok (.aload_n 0, 1) := by decide +kernel
theorem dX8_mayTake_10 : decode cX8_mayTake 10 = .ok (.iload_n 1, 1) := by decide +kernel
theorem dX8_mayTake_11 : decode cX8_mayTake 11 = .ok (.invokevirtual 60, 3) := by decide +kernel
theorem dX8_mayTake_14 : decode cX8_mayTake 14 = .ok (.invokestatic 67, 3) := by decide +kernel
theorem dX8_mayTake_17 : decode cX8_mayTake 17 = .ok (.istore 4, 2) := by decide +kernel
theorem dX8_mayTake_19 : decode cX8_mayTake 19 = .ok (.aload_n 0, 1) := by decide +kernel
theorem dX8_mayTake_20 : decode cX8_mayTake 20 = .ok (.getfield 40, 3) := by decide +kernel
theorem dX8_mayTake_23 : decode cX8_mayTake 23 = .ok (.iload_n 3, 1) := by decide +kernel
theorem dX8_mayTake_24 : decode cX8_mayTake 24 = .ok (.iload 4, 2) := by decide +kernel
theorem dX8_mayTake_26 : decode cX8_mayTake 26 = .ok (.invokevirtual 119, 3) := by decide +kernel
theorem dX8_mayTake_29 : decode cX8_mayTake 29 = .ok (.iload_n 2, 1) := by decide +kernel
theorem dX8_mayTake_30 : decode cX8_mayTake 30 = .ok (.if_icmp .ne 32, 3) := by decide +kernel
theorem dX8_mayTake_33 : decode cX8_mayTake 33 = .ok (.aload_n 0, 1) := by decide +kernel
theorem dX8_mayTake_34 : decode cX8_mayTake 34 = .ok (.getfield 40, 3) := by decide +kernel
theorem dX8_mayTake_37 : decode cX8_mayTake 37 = .ok (.iload_n 3, 1) := by decide +kernel
theorem dX8_mayTake_38 : decode cX8_mayTake 38 = .ok (.iload 4, 2) := by decide +kernel
theorem dX8_mayTake_40 : decode cX8_mayTake 40 = .ok (.invokevirtual 122, 3) := by decide +kernel
theorem dX8_mayTake_43 : decode cX8_mayTake 43 = .ok (.ifCond .ne 19, 3) := by decide +kernel
theorem dX8_mayTake_46 : decode cX8_mayTake 46 = .ok (.aload_n 0, 1) := by decide +kernel
theorem dX8_mayTake_47 : decode cX8_mayTake 47 = .ok (.iload_n 1, 1) := by decide +kernel
theorem dX8_mayTake_48 : decode cX8_mayTake 48 = .ok (.invokevirtual 125, 3) := by decide +kernel
theorem dX8_mayTake_51 : decode cX8_mayTake 51 = .ok (.ldc2_w 70, 3) := by decide +kernel
theorem dX8_mayTake_54 : decode cX8_mayTake 54 = .ok (.lcmp, 1) := by decide +kernel
theorem dX8_mayTake_55 : decode cX8_mayTake 55 = .ok (.ifCond .eq 7, 3) := by decide +kernel
theorem dX8_mayTake_58 : decode cX8_mayTake 58 = .ok (.iconst 1, 1) := by decide +kernel
theorem dX8_mayTake_59 : decode cX8_mayTake 59 = .ok (.goto 4, 3) := by decide +kernel
theorem dX8_mayTake_62 : decode cX8_mayTake 62 = .ok (.iconst 0, 1) := by decide +kernel
theorem dX8_mayTake_63 : decode cX8_mayTake 63 = .ok (.ireturn, 1) := by decide +kernel
set_option maxRecDepth 20000 in
theorem ggX8_take_X8_pairAt : GoodIn wsX8_take wsX8_pairAt := goodIn_r _ [9, 10, 11, 23, 24, 25, 26, 27, 28, 29, 30, 31] (by decide +kernel) (by decide +kernel)
set_option maxRecDepth 20000 in
theorem gX8_take_X8_pairAt : GoodIn wsX8_take (wsV RX8 60 RX8 yX8_pairAt wsX8_pairAt) := goodIn_app (goodIn_of _ (by decide +kernel)) ggX8_take_X8_pairAt
set_option maxRecDepth 20000 in
theorem ggX8_take_X8_pricedAt : GoodIn wsX8_take wsX8_pricedAt := goodIn_r _ [15, 10, 23, 24, 25, 26, 27, 28, 29, 30, 31] (by decide +kernel) (by decide +kernel)
set_option maxRecDepth 20000 in
theorem gX8_take_X8_pricedAt : GoodIn wsX8_take (wsV RX8 125 RX8 yX8_pricedAt wsX8_pricedAt) := goodIn_app (goodIn_of _ (by decide +kernel)) ggX8_take_X8_pricedAt
set_option maxRecDepth 20000 in
theorem ggX8_take_X9_lesserOf : GoodIn wsX8_take wsX9_lesserOf := goodIn_r _ [18] (by decide +kernel) (by decide +kernel)
set_option maxRecDepth 20000 in
theorem gX8_take_X9_lesserOf_n64 : GoodIn wsX8_take (wsX9_lesserOf) := ggX8_take_X9_lesserOf
set_option maxRecDepth 20000 in
theorem ggX8_take_X9_greaterOf : GoodIn wsX8_take wsX9_greaterOf := goodIn_r _ [20] (by decide +kernel) (by decide +kernel)
set_option maxRecDepth 20000 in
theorem gX8_take_X9_greaterOf_n67 : GoodIn wsX8_take (wsX9_greaterOf) := ggX8_take_X9_greaterOf
set_option maxRecDepth 20000 in
theorem ggX8_take_X9_isIn : GoodIn wsX8_take wsX9_isIn := goodIn_r _ [22] (by decide +kernel) (by decide +kernel)
set_option maxRecDepth 20000 in
theorem gX8_take_X9_isIn_n108 : GoodIn wsX8_take (wsX9_isIn) := ggX8_take_X9_isIn
theorem dX8_take_0 : decode cX8_take 0 = .ok (.aload_n 0, 1) := by decide +kernel
theorem dX8_take_1 : decode cX8_take 1 = .ok (.iload_n 1, 1) := by decide +kernel
theorem dX8_take_2 : decode cX8_take 2 = .ok (.invokevirtual 60, 3) := by decide +kernel
theorem dX8_take_5 : decode cX8_take 5 = .ok (.istore_n 2, 1) := by decide +kernel
theorem dX8_take_6 : decode cX8_take 6 = .ok (.aload_n 0, 1) := by decide +kernel
theorem dX8_take_7 : decode cX8_take 7 = .ok (.getfield 26, 3) := by decide +kernel
theorem dX8_take_10 : decode cX8_take 10 = .ok (.bipush 12, 2) := by decide +kernel
theorem dX8_take_12 : decode cX8_take 12 = .ok (.if_icmp .ge 23, 3) := by decide +kernel
theorem dX8_take_15 : decode cX8_take 15 = .ok (.aload_n 0, 1) := by decide +kernel
theorem dX8_take_16 : decode cX8_take 16 = .ok (.getfield 15, 3) := by decide +kernel
theorem dX8_take_19 : decode cX8_take 19 = .ok (.aload_n 0, 1) := by decide +kernel
theorem dX8_take_20 : decode cX8_take 20 = .ok (.getfield 26, 3) := by decide +kernel
theorem dX8_take_23 : decode cX8_take 23 = .ok (.iload_n 2, 1) := by decide +kernel
theorem dX8_take_24 : decode cX8_take 24 = .ok (.iastore, 1) := by decide +kernel
theorem dX8_take_25 : decode cX8_take 25 = .ok (.aload_n 0, 1) := by decide +kernel
theorem dX8_take_26 : decode cX8_take 26 = .ok (.dup, 1) := by decide +kernel
theorem dX8_take_27 : decode cX8_take 27 = .ok (.getfield 26, 3) := by decide +kernel
theorem dX8_take_30 : decode cX8_take 30 = .ok (.iconst 1, 1) := by decide +kernel
theorem dX8_take_31 : decode cX8_take 31 = .ok (.iadd, 1) := by decide +kernel
theorem dX8_take_32 : decode cX8_take 32 = .ok (.putfield 26, 3) := by decide +kernel
theorem dX8_take_35 : decode cX8_take 35 = .ok (.aload_n 0, 1) := by decide +kernel
theorem dX8_take_36 : decode cX8_take 36 = .ok (.dup, 1) := by decide +kernel
theorem dX8_take_37 : decode cX8_take 37 = .ok (.getfield 32, 3) := by decide +kernel
theorem dX8_take_40 : decode cX8_take 40 = .ok (.aload_n 0, 1) := by decide +kernel
theorem dX8_take_41 : decode cX8_take 41 = .ok (.iload_n 1, 1) := by decide +kernel
theorem dX8_take_42 : decode cX8_take 42 = .ok (.invokevirtual 125, 3) := by decide +kernel
theorem dX8_take_45 : decode cX8_take 45 = .ok (.ladd, 1) := by decide +kernel
theorem dX8_take_46 : decode cX8_take 46 = .ok (.putfield 32, 3) := by decide +kernel
theorem dX8_take_49 : decode cX8_take 49 = .ok (.aload_n 0, 1) := by decide +kernel
theorem dX8_take_50 : decode cX8_take 50 = .ok (.getfield 19, 3) := by decide +kernel
theorem dX8_take_53 : decode cX8_take 53 = .ok (.iload_n 2, 1) := by decide +kernel
theorem dX8_take_54 : decode cX8_take 54 = .ok (.invokestatic 64, 3) := by decide +kernel
theorem dX8_take_57 : decode cX8_take 57 = .ok (.iaload, 1) := by decide +kernel
theorem dX8_take_58 : decode cX8_take 58 = .ok (.aload_n 0, 1) := by decide +kernel
theorem dX8_take_59 : decode cX8_take 59 = .ok (.getfield 19, 3) := by decide +kernel
theorem dX8_take_62 : decode cX8_take 62 = .ok (.iload_n 2, 1) := by decide +kernel
theorem dX8_take_63 : decode cX8_take 63 = .ok (.invokestatic 67, 3) := by decide +kernel
theorem dX8_take_66 : decode cX8_take 66 = .ok (.iaload, 1) := by decide +kernel
theorem dX8_take_67 : decode cX8_take 67 = .ok (.ior, 1) := by decide +kernel
theorem dX8_take_68 : decode cX8_take 68 = .ok (.istore_n 3, 1) := by decide +kernel
theorem dX8_take_69 : decode cX8_take 69 = .ok (.iconst 0, 1) := by decide +kernel
theorem dX8_take_70 : decode cX8_take 70 = .ok (.istore 4, 2) := by decide +kernel
theorem dX8_take_72 : decode cX8_take 72 = .ok (.iload 4, 2) := by decide +kernel
theorem dX8_take_74 : decode cX8_take 74 = .ok (.bipush 12, 2) := by decide +kernel
theorem dX8_take_76 : decode cX8_take 76 = .ok (.if_icmp .ge 26, 3) := by decide +kernel
theorem dX8_take_79 : decode cX8_take 79 = .ok (.iload_n 3, 1) := by decide +kernel
theorem dX8_take_80 : decode cX8_take 80 = .ok (.iload 4, 2) := by decide +kernel
theorem dX8_take_82 : decode cX8_take 82 = .ok (.invokestatic 108, 3) := by decide +kernel
theorem dX8_take_85 : decode cX8_take 85 = .ok (.ifCond .eq 11, 3) := by decide +kernel
theorem dX8_take_88 : decode cX8_take 88 = .ok (.aload_n 0, 1) := by decide +kernel
theorem dX8_take_89 : decode cX8_take 89 = .ok (.getfield 19, 3) := by decide +kernel
theorem dX8_take_92 : decode cX8_take 92 = .ok (.iload 4, 2) := by decide +kernel
theorem dX8_take_94 : decode cX8_take 94 = .ok (.iload_n 3, 1) := by decide +kernel
theorem dX8_take_95 : decode cX8_take 95 = .ok (.iastore, 1) := by decide +kernel
theorem dX8_take_96 : decode cX8_take 96 = .ok (.iinc 4 1, 3) := by decide +kernel
theorem dX8_take_99 : decode cX8_take 99 = .ok (.goto (-27), 3) := by decide +kernel
theorem dX8_take_102 : decode cX8_take 102 = .ok (.return_, 1) := by decide +kernel
set_option maxRecDepth 20000 in
theorem ggX8_sumOfCase_X2_firstLive : GoodIn wsX8_sumOfCase wsX2_firstLive := goodIn_r _ [11, 12, 13, 14, 15, 16, 34, 35, 36, 37, 38, 39, 40, 41, 42, 43, 44] (by decide +kernel) (by decide +kernel)
set_option maxRecDepth 20000 in
theorem gX8_sumOfCase_X2_firstLive : GoodIn wsX8_sumOfCase (wsV RX8 94 RX2 yX2_firstLive wsX2_firstLive) := goodIn_app (goodIn_of _ (by decide +kernel)) ggX8_sumOfCase_X2_firstLive
set_option maxRecDepth 20000 in
theorem ggX8_sumOfCase_X2_isLive : GoodIn wsX8_sumOfCase wsX2_isLive := goodIn_r _ [20, 13, 21, 22, 23, 10, 24, 12, 14, 15, 16, 34, 35, 36, 37, 38, 39, 40, 41, 42, 43, 44] (by decide +kernel) (by decide +kernel)
set_option maxRecDepth 20000 in
theorem gX8_sumOfCase_X2_isLive : GoodIn wsX8_sumOfCase (wsV RX8 49 RX2 yX2_isLive wsX2_isLive) := goodIn_app (goodIn_of _ (by decide +kernel)) ggX8_sumOfCase_X2_isLive
theorem dX8_sumOfCase_0 : decode cX8_sumOfCase 0 = .ok (.aload_n 0, 1) := by decide +kernel
theorem dX8_sumOfCase_1 : decode cX8_sumOfCase 1 = .ok (.getfield 36, 3) := by decide +kernel
theorem dX8_sumOfCase_4 : decode cX8_sumOfCase 4 = .ok (.invokevirtual 94, 3) := by decide +kernel
theorem dX8_sumOfCase_7 : decode cX8_sumOfCase 7 = .ok (.istore_n 1, 1) := by decide +kernel
theorem dX8_sumOfCase_8 : decode cX8_sumOfCase 8 = .ok (.iload_n 1, 1) := by decide +kernel
theorem dX8_sumOfCase_9 : decode cX8_sumOfCase 9 = .ok (.iconst (-1), 1) := by decide +kernel
theorem dX8_sumOfCase_10 : decode cX8_sumOfCase 10 = .ok (.if_icmp .eq 27, 3) := by decide +kernel
theorem dX8_sumOfCase_13 : decode cX8_sumOfCase 13 = .ok (.aload_n 0, 1) := by decide +kernel
theorem dX8_sumOfCase_14 : decode cX8_sumOfCase 14 = .ok (.getfield 29, 3) := by decide +kernel
theorem dX8_sumOfCase_17 : decode cX8_sumOfCase 17 = .ok (.iconst 2, 1) := by decide +kernel
theorem dX8_sumOfCase_18 : decode cX8_sumOfCase 18 = .ok (.if_icmp .lt 19, 3) := by decide +kernel
theorem dX8_sumOfCase_21 : decode cX8_sumOfCase 21 = .ok (.aload_n 0, 1) := by decide +kernel
