theorem dm_X10_first_0 : (([(0, .iconst 0, 1), (1, .istore_n 1, 1), (2, .aload_n 0, 1), (3, .getfield 45, 3), (6, .iload_n 1, 1), (7, .baload, 1), (8, .ifCond .eq 9, 3), (11, .iinc 1 1, 3), (14, .goto (-12), 3), (17, .iload_n 1, 1), (18, .ireturn, 1)] : List (Nat × Instr × Nat)).all fun q => decide (decode cX10_first q.1 = .ok (q.2.1, q.2.2))) = true := by decide +kernel
theorem dX10_first_0 : decode cX10_first 0 = .ok (.iconst 0, 1) := dd_get dm_X10_first_0 0 rfl
theorem dX10_first_1 : decode cX10_first 1 = .ok (.istore_n 1, 1) := dd_get dm_X10_first_0 1 rfl
theorem dX10_first_2 : decode cX10_first 2 = .ok (.aload_n 0, 1) := dd_get dm_X10_first_0 2 rfl
theorem dX10_first_3 : decode cX10_first 3 = .ok (.getfield 45, 3) := dd_get dm_X10_first_0 3 rfl
theorem dX10_first_6 : decode cX10_first 6 = .ok (.iload_n 1, 1) := dd_get dm_X10_first_0 4 rfl
theorem dX10_first_7 : decode cX10_first 7 = .ok (.baload, 1) := dd_get dm_X10_first_0 5 rfl
theorem dX10_first_8 : decode cX10_first 8 = .ok (.ifCond .eq 9, 3) := dd_get dm_X10_first_0 6 rfl
theorem dX10_first_11 : decode cX10_first 11 = .ok (.iinc 1 1, 3) := dd_get dm_X10_first_0 7 rfl
theorem dX10_first_14 : decode cX10_first 14 = .ok (.goto (-12), 3) := dd_get dm_X10_first_0 8 rfl
theorem dX10_first_17 : decode cX10_first 17 = .ok (.iload_n 1, 1) := dd_get dm_X10_first_0 9 rfl
theorem dX10_first_18 : decode cX10_first 18 = .ok (.ireturn, 1) := dd_get dm_X10_first_0 10 rfl
theorem dm_X10_nextPair_0 : (([(0, .aload_n 0, 1), (1, .invokevirtual 201, 3), (4, .istore_n 2, 1), (5, .iconst (-1), 1), (6, .istore_n 3, 1), (7, .iconst 0, 1), (8, .istore 4, 2), (10, .iload 4, 2), (12, .sipush 144, 3), (15, .if_icmp .ge 128, 3), (18, .aload_n 0, 1), (19, .iload 4, 2), (21, .invokevirtual 204, 3), (24, .ifCond .eq 113, 3), (27, .aload_n 0, 1), (28, .getfield 72, 3), (31, .iload 4, 2), (33, .iaload, 1), (34, .iconst 2, 1), (35, .if_icmp .eq 102, 3), (38, .aload_n 0, 1), (39, .iload 4, 2), (41, .invokevirtual 207, 3), (44, .ifCond .eq 93, 3), (47, .aload_n 0, 1), (48, .getfield 81, 3), (51, .iload 4, 2), (53, .baload, 1), (54, .ifCond .eq 6, 3), (57, .goto 80, 3), (60, .iload 4, 2), (62, .bipush 12, 2), (64, .idiv, 1), (65, .istore 5, 2), (67, .iload 4, 2), (69, .bipush 12, 2), (71, .irem, 1), (72, .istore 6, 2), (74, .iload 5, 2), (76, .iload_n 2, 1), (77, .if_icmp .eq 9, 3), (80, .iload 6, 2), (82, .iload_n 2, 1), (83, .if_icmp .ne 7, 3), (86, .iconst 1, 1), (87, .goto 4, 3), (90, .iconst 0, 1), (91, .istore 7, 2), (93, .iload 7, 2), (95, .iload_n 1, 1), (96, .if_icmp .ne 41, 3), (99, .iload_n 1, 1), (100, .ifCond .ne 20, 3), (103, .aload_n 0, 1), (104, .getfield 75, 3), (107, .iload 5, 2), (109, .iaload, 1), (110, .aload_n 0, 1), (111, .getfield 75, 3), (114, .iload 6, 2)] : List (Nat × Instr × Nat)).all fun q => decide (decode cX10_nextPair q.1 = .ok (q.2.1, q.2.2))) = true := by decide +kernel
theorem dX10_nextPair_0 : decode cX10_nextPair 0 = .ok (.aload_n 0, 1) := dd_get dm_X10_nextPair_0 0 rfl
theorem dX10_nextPair_1 : decode cX10_nextPair 1 = .ok (.invokevirtual 201, 3) := dd_get dm_X10_nextPair_0 1 rfl
theorem dX10_nextPair_4 : decode cX10_nextPair 4 = .ok (.istore_n 2, 1) := dd_get dm_X10_nextPair_0 2 rfl
theorem dX10_nextPair_5 : decode cX10_nextPair 5 = .ok (.iconst (-1), 1) := dd_get dm_X10_nextPair_0 3 rfl
theorem dX10_nextPair_6 : decode cX10_nextPair 6 = .ok (.istore_n 3, 1) := dd_get dm_X10_nextPair_0 4 rfl
theorem dX10_nextPair_7 : decode cX10_nextPair 7 = .ok (.iconst 0, 1) := dd_get dm_X10_nextPair_0 5 rfl
theorem dX10_nextPair_8 : decode cX10_nextPair 8 = .ok (.istore 4, 2) := dd_get dm_X10_nextPair_0 6 rfl
theorem dX10_nextPair_10 : decode cX10_nextPair 10 = .ok (.iload 4, 2) := dd_get dm_X10_nextPair_0 7 rfl
theorem dX10_nextPair_12 : decode cX10_nextPair 12 = .ok (.sipush 144, 3) := dd_get dm_X10_nextPair_0 8 rfl
theorem dX10_nextPair_15 : decode cX10_nextPair 15 = .ok (.if_icmp .ge 128, 3) := dd_get dm_X10_nextPair_0 9 rfl
theorem dX10_nextPair_18 : decode cX10_nextPair 18 = .ok (.aload_n 0, 1) := dd_get dm_X10_nextPair_0 10 rfl
theorem dX10_nextPair_19 : decode cX10_nextPair 19 = .ok (.iload 4, 2) := dd_get dm_X10_nextPair_0 11 rfl
theorem dX10_nextPair_21 : decode cX10_nextPair 21 = .ok (.invokevirtual 204, 3) := dd_get dm_X10_nextPair_0 12 rfl
theorem dX10_nextPair_24 : decode cX10_nextPair 24 = .ok (.ifCond .eq 113, 3) := dd_get dm_X10_nextPair_0 13 rfl
theorem dX10_nextPair_27 : decode cX10_nextPair 27 = .ok (.aload_n 0, 1) := dd_get dm_X10_nextPair_0 14 rfl
theorem dX10_nextPair_28 : decode cX10_nextPair 28 = .ok (.getfield 72, 3) := dd_get dm_X10_nextPair_0 15 rfl
theorem dX10_nextPair_31 : decode cX10_nextPair 31 = .ok (.iload 4, 2) := dd_get dm_X10_nextPair_0 16 rfl
theorem dX10_nextPair_33 : decode cX10_nextPair 33 = .ok (.iaload, 1) := dd_get dm_X10_nextPair_0 17 rfl
theorem dX10_nextPair_34 : decode cX10_nextPair 34 = .ok (.iconst 2, 1) := dd_get dm_X10_nextPair_0 18 rfl
theorem dX10_nextPair_35 : decode cX10_nextPair 35 = .ok (.if_icmp .eq 102, 3) := dd_get dm_X10_nextPair_0 19 rfl
theorem dX10_nextPair_38 : decode cX10_nextPair 38 = .ok (.aload_n 0, 1) := dd_get dm_X10_nextPair_0 20 rfl
theorem dX10_nextPair_39 : decode cX10_nextPair 39 = .ok (.iload 4, 2) := dd_get dm_X10_nextPair_0 21 rfl
theorem dX10_nextPair_41 : decode cX10_nextPair 41 = .ok (.invokevirtual 207, 3) := dd_get dm_X10_nextPair_0 22 rfl
theorem dX10_nextPair_44 : decode cX10_nextPair 44 = .ok (.ifCond .eq 93, 3) := dd_get dm_X10_nextPair_0 23 rfl
theorem dX10_nextPair_47 : decode cX10_nextPair 47 = .ok (.aload_n 0, 1) := dd_get dm_X10_nextPair_0 24 rfl
theorem dX10_nextPair_48 : decode cX10_nextPair 48 = .ok (.getfield 81, 3) := dd_get dm_X10_nextPair_0 25 rfl
theorem dX10_nextPair_51 : decode cX10_nextPair 51 = .ok (.iload 4, 2) := dd_get dm_X10_nextPair_0 26 rfl
theorem dX10_nextPair_53 : decode cX10_nextPair 53 = .ok (.baload, 1) := dd_get dm_X10_nextPair_0 27 rfl
theorem dX10_nextPair_54 : decode cX10_nextPair 54 = .ok (.ifCond .eq 6, 3) := dd_get dm_X10_nextPair_0 28 rfl
theorem dX10_nextPair_57 : decode cX10_nextPair 57 = .ok (.goto 80, 3) := dd_get dm_X10_nextPair_0 29 rfl
theorem dX10_nextPair_60 : decode cX10_nextPair 60 = .ok (.iload 4, 2) := dd_get dm_X10_nextPair_0 30 rfl
theorem dX10_nextPair_62 : decode cX10_nextPair 62 = .ok (.bipush 12, 2) := dd_get dm_X10_nextPair_0 31 rfl
theorem dX10_nextPair_64 : decode cX10_nextPair 64 = .ok (.idiv, 1) := dd_get dm_X10_nextPair_0 32 rfl
theorem dX10_nextPair_65 : decode cX10_nextPair 65 = .ok (.istore 5, 2) := dd_get dm_X10_nextPair_0 33 rfl
theorem dX10_nextPair_67 : decode cX10_nextPair 67 = .ok (.iload 4, 2) := dd_get dm_X10_nextPair_0 34 rfl
theorem dX10_nextPair_69 : decode cX10_nextPair 69 = .ok (.bipush 12, 2) := dd_get dm_X10_nextPair_0 35 rfl
theorem dX10_nextPair_71 : decode cX10_nextPair 71 = .ok (.irem, 1) := dd_get dm_X10_nextPair_0 36 rfl
theorem dX10_nextPair_72 : decode cX10_nextPair 72 = .ok (.istore 6, 2) := dd_get dm_X10_nextPair_0 37 rfl
theorem dX10_nextPair_74 : decode cX10_nextPair 74 = .ok (.iload 5, 2) := dd_get dm_X10_nextPair_0 38 rfl
theorem dX10_nextPair_76 : decode cX10_nextPair 76 = .ok (.iload_n 2, 1) := dd_get dm_X10_nextPair_0 39 rfl
theorem dX10_nextPair_77 : decode cX10_nextPair 77 = .ok (.if_icmp .eq 9, 3) := dd_get dm_X10_nextPair_0 40 rfl
theorem dX10_nextPair_80 : decode cX10_nextPair 80 = .ok (.iload 6, 2) := dd_get dm_X10_nextPair_0 41 rfl
theorem dX10_nextPair_82 : decode cX10_nextPair 82 = .ok (.iload_n 2, 1) := dd_get dm_X10_nextPair_0 42 rfl
theorem dX10_nextPair_83 : decode cX10_nextPair 83 = .ok (.if_icmp .ne 7, 3) := dd_get dm_X10_nextPair_0 43 rfl
theorem dX10_nextPair_86 : decode cX10_nextPair 86 = .ok (.iconst 1, 1) := dd_get dm_X10_nextPair_0 44 rfl
theorem dX10_nextPair_87 : decode cX10_nextPair 87 = .ok (.goto 4, 3) := dd_get dm_X10_nextPair_0 45 rfl
theorem dX10_nextPair_90 : decode cX10_nextPair 90 = .ok (.iconst 0, 1) := dd_get dm_X10_nextPair_0 46 rfl
theorem dX10_nextPair_91 : decode cX10_nextPair 91 = .ok (.istore 7, 2) := dd_get dm_X10_nextPair_0 47 rfl
theorem dX10_nextPair_93 : decode cX10_nextPair 93 = .ok (.iload 7, 2) := dd_get dm_X10_nextPair_0 48 rfl
theorem dX10_nextPair_95 : decode cX10_nextPair 95 = .ok (.iload_n 1, 1) := dd_get dm_X10_nextPair_0 49 rfl
theorem dX10_nextPair_96 : decode cX10_nextPair 96 = .ok (.if_icmp .ne 41, 3) := dd_get dm_X10_nextPair_0 50 rfl
theorem dX10_nextPair_99 : decode cX10_nextPair 99 = .ok (.iload_n 1, 1) := dd_get dm_X10_nextPair_0 51 rfl
theorem dX10_nextPair_100 : decode cX10_nextPair 100 = .ok (.ifCond .ne 20, 3) := dd_get dm_X10_nextPair_0 52 rfl
theorem dX10_nextPair_103 : decode cX10_nextPair 103 = .ok (.aload_n 0, 1) := dd_get dm_X10_nextPair_0 53 rfl
theorem dX10_nextPair_104 : decode cX10_nextPair 104 = .ok (.getfield 75, 3) := dd_get dm_X10_nextPair_0 54 rfl
theorem dX10_nextPair_107 : decode cX10_nextPair 107 = .ok (.iload 5, 2) := dd_get dm_X10_nextPair_0 55 rfl
theorem dX10_nextPair_109 : decode cX10_nextPair 109 = .ok (.iaload, 1) := dd_get dm_X10_nextPair_0 56 rfl
theorem dX10_nextPair_110 : decode cX10_nextPair 110 = .ok (.aload_n 0, 1) := dd_get dm_X10_nextPair_0 57 rfl
theorem dX10_nextPair_111 : decode cX10_nextPair 111 = .ok (.getfield 75, 3) := dd_get dm_X10_nextPair_0 58 rfl
theorem dX10_nextPair_114 : decode cX10_nextPair 114 = .ok (.iload 6, 2) := dd_get dm_X10_nextPair_0 59 rfl
theorem dm_X10_nextPair_1 : (([(116, .iaload, 1), (117, .if_icmp .eq 20, 3), (120, .iload_n 3, 1), (121, .ifCond .lt 13, 3), (124, .aload_n 0, 1), (125, .iload 4, 2), (127, .iload_n 3, 1), (128, .invokevirtual 210, 3), (131, .ifCond .eq 6, 3), (134, .iload 4, 2), (136, .istore_n 3, 1), (137, .iinc 4 1, 3), (140, .goto (-130), 3), (143, .iload_n 3, 1), (144, .ireturn, 1)] : List (Nat × Instr × Nat)).all fun q => decide (decode cX10_nextPair q.1 = .ok (q.2.1, q.2.2))) = true := by decide +kernel
theorem dX10_nextPair_116 : decode cX10_nextPair 116 = .ok (.iaload, 1) := dd_get dm_X10_nextPair_1 0 rfl
theorem dX10_nextPair_117 : decode cX10_nextPair 117 = .ok (.if_icmp .eq 20, 3) := dd_get dm_X10_nextPair_1 1 rfl
theorem dX10_nextPair_120 : decode cX10_nextPair 120 = .ok (.iload_n 3, 1) := dd_get dm_X10_nextPair_1 2 rfl
theorem dX10_nextPair_121 : decode cX10_nextPair 121 = .ok (.ifCond .lt 13, 3) := dd_get dm_X10_nextPair_1 3 rfl
theorem dX10_nextPair_124 : decode cX10_nextPair 124 = .ok (.aload_n 0, 1) := dd_get dm_X10_nextPair_1 4 rfl
theorem dX10_nextPair_125 : decode cX10_nextPair 125 = .ok (.iload 4, 2) := dd_get dm_X10_nextPair_1 5 rfl
theorem dX10_nextPair_127 : decode cX10_nextPair 127 = .ok (.iload_n 3, 1) := dd_get dm_X10_nextPair_1 6 rfl
theorem dX10_nextPair_128 : decode cX10_nextPair 128 = .ok (.invokevirtual 210, 3) := dd_get dm_X10_nextPair_1 7 rfl
theorem dX10_nextPair_131 : decode cX10_nextPair 131 = .ok (.ifCond .eq 6, 3) := dd_get dm_X10_nextPair_1 8 rfl
theorem dX10_nextPair_134 : decode cX10_nextPair 134 = .ok (.iload 4, 2) := dd_get dm_X10_nextPair_1 9 rfl
theorem dX10_nextPair_136 : decode cX10_nextPair 136 = .ok (.istore_n 3, 1) := dd_get dm_X10_nextPair_1 10 rfl
theorem dX10_nextPair_137 : decode cX10_nextPair 137 = .ok (.iinc 4 1, 3) := dd_get dm_X10_nextPair_1 11 rfl
theorem dX10_nextPair_140 : decode cX10_nextPair 140 = .ok (.goto (-130), 3) := dd_get dm_X10_nextPair_1 12 rfl
theorem dX10_nextPair_143 : decode cX10_nextPair 143 = .ok (.iload_n 3, 1) := dd_get dm_X10_nextPair_1 13 rfl
theorem dX10_nextPair_144 : decode cX10_nextPair 144 = .ok (.ireturn, 1) := dd_get dm_X10_nextPair_1 14 rfl
theorem dm_X10_take_0 : (([(0, .aload_n 0, 1), (1, .getfield 81, 3), (4, .iload_n 1, 1), (5, .iconst 1, 1), (6, .bastore, 1), (7, .aload_n 0, 1), (8, .getfield 78, 3), (11, .aload_n 0, 1), (12, .getfield 214, 3), (15, .iload_n 1, 1), (16, .iastore, 1), (17, .aload_n 0, 1), (18, .dup, 1), (19, .getfield 214, 3), (22, .iconst 1, 1), (23, .iadd, 1), (24, .putfield 214, 3), (27, .aload_n 0, 1), (28, .getfield 75, 3), (31, .iload_n 1, 1), (32, .bipush 12, 2), (34, .idiv, 1), (35, .iaload, 1), (36, .istore_n 2, 1), (37, .aload_n 0, 1), (38, .getfield 75, 3), (41, .iload_n 1, 1), (42, .bipush 12, 2), (44, .irem, 1), (45, .iaload, 1), (46, .istore_n 3, 1), (47, .iconst 0, 1), (48, .istore 4, 2), (50, .iload 4, 2), (52, .bipush 12, 2), (54, .if_icmp .ge 38, 3), (57, .aload_n 0, 1), (58, .getfield 75, 3), (61, .iload 4, 2), (63, .aload_n 0, 1), (64, .getfield 75, 3), (67, .iload 4, 2), (69, .iaload, 1), (70, .iload_n 2, 1), (71, .if_icmp .ne 7, 3), (74, .iload_n 3, 1), (75, .goto 10, 3), (78, .aload_n 0, 1), (79, .getfield 75, 3), (82, .iload 4, 2), (84, .iaload, 1), (85, .iastore, 1), (86, .iinc 4 1, 3), (89, .goto (-39), 3), (92, .return_, 1)] : List (Nat × Instr × Nat)).all fun q => decide (decode cX10_take q.1 = .ok (q.2.1, q.2.2))) = true := by decide +kernel
theorem dX10_take_0 : decode cX10_take 0 = .ok (.aload_n 0, 1) := dd_get dm_X10_take_0 0 rfl
theorem dX10_take_1 : decode cX10_take 1 = .ok (.getfield 81, 3) := dd_get dm_X10_take_0 1 rfl
theorem dX10_take_4 : decode cX10_take 4 = .ok (.iload_n 1, 1) := dd_get dm_X10_take_0 2 rfl
theorem dX10_take_5 : decode cX10_take 5 = .ok (.iconst 1, 1) := dd_get dm_X10_take_0 3 rfl
theorem dX10_take_6 : decode cX10_take 6 = .ok (.bastore, 1) := dd_get dm_X10_take_0 4 rfl
theorem dX10_take_7 : decode cX10_take 7 = .ok (.aload_n 0, 1) := dd_get dm_X10_take_0 5 rfl
theorem dX10_take_8 : decode cX10_take 8 = .ok (.getfield 78, 3) := dd_get dm_X10_take_0 6 rfl
theorem dX10_take_11 : decode cX10_take 11 = .ok (.aload_n 0, 1) := dd_get dm_X10_take_0 7 rfl
theorem dX10_take_12 : decode cX10_take 12 = .ok (.getfield 214, 3) := dd_get dm_X10_take_0 8 rfl
theorem dX10_take_15 : decode cX10_take 15 = .ok (.iload_n 1, 1) := dd_get dm_X10_take_0 9 rfl
theorem dX10_take_16 : decode cX10_take 16 = .ok (.iastore, 1) := dd_get dm_X10_take_0 10 rfl
theorem dX10_take_17 : decode cX10_take 17 = .ok (.aload_n 0, 1) := dd_get dm_X10_take_0 11 rfl
theorem dX10_take_18 : decode cX10_take 18 = .ok (.dup, 1) := dd_get dm_X10_take_0 12 rfl
theorem dX10_take_19 : decode cX10_take 19 = .ok (.getfield 214, 3) := dd_get dm_X10_take_0 13 rfl
theorem dX10_take_22 : decode cX10_take 22 = .ok (.iconst 1, 1) := dd_get dm_X10_take_0 14 rfl
theorem dX10_take_23 : decode cX10_take 23 = .ok (.iadd, 1) := dd_get dm_X10_take_0 15 rfl
theorem dX10_take_24 : decode cX10_take 24 = .ok (.putfield 214, 3) := dd_get dm_X10_take_0 16 rfl
theorem dX10_take_27 : decode cX10_take 27 = .ok (.aload_n 0, 1) := dd_get dm_X10_take_0 17 rfl
theorem dX10_take_28 : decode cX10_take 28 = .ok (.getfield 75, 3) := dd_get dm_X10_take_0 18 rfl
theorem dX10_take_31 : decode cX10_take 31 = .ok (.iload_n 1, 1) := dd_get dm_X10_take_0 19 rfl
theorem dX10_take_32 : decode cX10_take 32 = .ok (.bipush 12, 2) := dd_get dm_X10_take_0 20 rfl
theorem dX10_take_34 : decode cX10_take 34 = .ok (.idiv, 1) := dd_get dm_X10_take_0 21 rfl
theorem dX10_take_35 : decode cX10_take 35 = .ok (.iaload, 1) := dd_get dm_X10_take_0 22 rfl
theorem dX10_take_36 : decode cX10_take 36 = .ok (.istore_n 2, 1) := dd_get dm_X10_take_0 23 rfl
theorem dX10_take_37 : decode cX10_take 37 = .ok (.aload_n 0, 1) := dd_get dm_X10_take_0 24 rfl
theorem dX10_take_38 : decode cX10_take 38 = .ok (.getfield 75, 3) := dd_get dm_X10_take_0 25 rfl
theorem dX10_take_41 : decode cX10_take 41 = .ok (.iload_n 1, 1) := dd_get dm_X10_take_0 26 rfl
theorem dX10_take_42 : decode cX10_take 42 = .ok (.bipush 12, 2) := dd_get dm_X10_take_0 27 rfl
theorem dX10_take_44 : decode cX10_take 44 = .ok (.irem, 1) := dd_get dm_X10_take_0 28 rfl
theorem dX10_take_45 : decode cX10_take 45 = .ok (.iaload, 1) := dd_get dm_X10_take_0 29 rfl
theorem dX10_take_46 : decode cX10_take 46 = .ok (.istore_n 3, 1) := dd_get dm_X10_take_0 30 rfl
theorem dX10_take_47 : decode cX10_take 47 = .ok (.iconst 0, 1) := dd_get dm_X10_take_0 31 rfl
theorem dX10_take_48 : decode cX10_take 48 = .ok (.istore 4, 2) := dd_get dm_X10_take_0 32 rfl
theorem dX10_take_50 : decode cX10_take 50 = .ok (.iload 4, 2) := dd_get dm_X10_take_0 33 rfl
theorem dX10_take_52 : decode cX10_take 52 = .ok (.bipush 12, 2) := dd_get dm_X10_take_0 34 rfl
theorem dX10_take_54 : decode cX10_take 54 = .ok (.if_icmp .ge 38, 3) := dd_get dm_X10_take_0 35 rfl
theorem dX10_take_57 : decode cX10_take 57 = .ok (.aload_n 0, 1) := dd_get dm_X10_take_0 36 rfl
theorem dX10_take_58 : decode cX10_take 58 = .ok (.getfield 75, 3) := dd_get dm_X10_take_0 37 rfl
theorem dX10_take_61 : decode cX10_take 61 = .ok (.iload 4, 2) := dd_get dm_X10_take_0 38 rfl
theorem dX10_take_63 : decode cX10_take 63 = .ok (.aload_n 0, 1) := dd_get dm_X10_take_0 39 rfl
theorem dX10_take_64 : decode cX10_take 64 = .ok (.getfield 75, 3) := dd_get dm_X10_take_0 40 rfl
theorem dX10_take_67 : decode cX10_take 67 = .ok (.iload 4, 2) := dd_get dm_X10_take_0 41 rfl
theorem dX10_take_69 : decode cX10_take 69 = .ok (.iaload, 1) := dd_get dm_X10_take_0 42 rfl
theorem dX10_take_70 : decode cX10_take 70 = .ok (.iload_n 2, 1) := dd_get dm_X10_take_0 43 rfl
theorem dX10_take_71 : decode cX10_take 71 = .ok (.if_icmp .ne 7, 3) := dd_get dm_X10_take_0 44 rfl
theorem dX10_take_74 : decode cX10_take 74 = .ok (.iload_n 3, 1) := dd_get dm_X10_take_0 45 rfl
theorem dX10_take_75 : decode cX10_take 75 = .ok (.goto 10, 3) := dd_get dm_X10_take_0 46 rfl
theorem dX10_take_78 : decode cX10_take 78 = .ok (.aload_n 0, 1) := dd_get dm_X10_take_0 47 rfl
theorem dX10_take_79 : decode cX10_take 79 = .ok (.getfield 75, 3) := dd_get dm_X10_take_0 48 rfl
theorem dX10_take_82 : decode cX10_take 82 = .ok (.iload 4, 2) := dd_get dm_X10_take_0 49 rfl
theorem dX10_take_84 : decode cX10_take 84 = .ok (.iaload, 1) := dd_get dm_X10_take_0 50 rfl
theorem dX10_take_85 : decode cX10_take 85 = .ok (.iastore, 1) := dd_get dm_X10_take_0 51 rfl
theorem dX10_take_86 : decode cX10_take 86 = .ok (.iinc 4 1, 3) := dd_get dm_X10_take_0 52 rfl
theorem dX10_take_89 : decode cX10_take 89 = .ok (.goto (-39), 3) := dd_get dm_X10_take_0 53 rfl
theorem dX10_take_92 : decode cX10_take 92 = .ok (.return_, 1) := dd_get dm_X10_take_0 54 rfl
theorem dm_X10_tree_0 : (([(0, .aload_n 0, 1), (1, .iconst 0, 1), (2, .putfield 214, 3), (5, .iconst 0, 1), (6, .istore_n 1, 1), (7, .iload_n 1, 1), (8, .sipush 144, 3), (11, .if_icmp .ge 16, 3), (14, .aload_n 0, 1), (15, .getfield 81, 3), (18, .iload_n 1, 1), (19, .iconst 0, 1), (20, .bastore, 1), (21, .iinc 1 1, 3), (24, .goto (-17), 3), (27, .iconst 0, 1), (28, .istore_n 1, 1), (29, .iload_n 1, 1), (30, .bipush 12, 2), (32, .if_icmp .ge 16, 3), (35, .aload_n 0, 1), (36, .getfield 75, 3), (39, .iload_n 1, 1), (40, .iload_n 1, 1), (41, .iastore, 1), (42, .iinc 1 1, 3), (45, .goto (-16), 3), (48, .aload_n 0, 1), (49, .iconst 0, 1), (50, .invokevirtual 217, 3), (53, .istore_n 1, 1), (54, .iload_n 1, 1), (55, .ifCond .lt 17, 3), (58, .aload_n 0, 1), (59, .iload_n 1, 1), (60, .invokevirtual 221, 3), (63, .aload_n 0, 1), (64, .iconst 0, 1), (65, .invokevirtual 217, 3), (68, .istore_n 1, 1), (69, .goto (-15), 3), (72, .iconst 0, 1), (73, .istore_n 2, 1), (74, .aload_n 0, 1), (75, .iconst 1, 1), (76, .invokevirtual 217, 3), (79, .istore_n 1, 1), (80, .iload_n 1, 1), (81, .ifCond .lt 25, 3), (84, .iload_n 2, 1), (85, .iconst 2, 1), (86, .if_icmp .ge 20, 3), (89, .aload_n 0, 1), (90, .iload_n 1, 1), (91, .invokevirtual 221, 3), (94, .iinc 2 1, 3), (97, .aload_n 0, 1), (98, .iconst 1, 1), (99, .invokevirtual 217, 3), (102, .istore_n 1, 1)] : List (Nat × Instr × Nat)).all fun q => decide (decode cX10_tree q.1 = .ok (q.2.1, q.2.2))) = true := by decide +kernel
theorem dX10_tree_0 : decode cX10_tree 0 = .ok (.aload_n 0, 1) := dd_get dm_X10_tree_0 0 rfl
theorem dX10_tree_1 : decode cX10_tree 1 = .ok (.iconst 0, 1) := dd_get dm_X10_tree_0 1 rfl
theorem dX10_tree_2 : decode cX10_tree 2 = .ok (.putfield 214, 3) := dd_get dm_X10_tree_0 2 rfl
theorem dX10_tree_5 : decode cX10_tree 5 = .ok (.iconst 0, 1) := dd_get dm_X10_tree_0 3 rfl
theorem dX10_tree_6 : decode cX10_tree 6 = .ok (.istore_n 1, 1) := dd_get dm_X10_tree_0 4 rfl
theorem dX10_tree_7 : decode cX10_tree 7 = .ok (.iload_n 1, 1) := dd_get dm_X10_tree_0 5 rfl
theorem dX10_tree_8 : decode cX10_tree 8 = .ok (.sipush 144, 3) := dd_get dm_X10_tree_0 6 rfl
theorem dX10_tree_11 : decode cX10_tree 11 = .ok (.if_icmp .ge 16, 3) := dd_get dm_X10_tree_0 7 rfl
theorem dX10_tree_14 : decode cX10_tree 14 = .ok (.aload_n 0, 1) := dd_get dm_X10_tree_0 8 rfl
theorem dX10_tree_15 : decode cX10_tree 15 = .ok (.getfield 81, 3) := dd_get dm_X10_tree_0 9 rfl
theorem dX10_tree_18 : decode cX10_tree 18 = .ok (.iload_n 1, 1) := dd_get dm_X10_tree_0 10 rfl
theorem dX10_tree_19 : decode cX10_tree 19 = .ok (.iconst 0, 1) := dd_get dm_X10_tree_0 11 rfl
theorem dX10_tree_20 : decode cX10_tree 20 = .ok (.bastore, 1) := dd_get dm_X10_tree_0 12 rfl
theorem dX10_tree_21 : decode cX10_tree 21 = .ok (.iinc 1 1, 3) := dd_get dm_X10_tree_0 13 rfl
theorem dX10_tree_24 : decode cX10_tree 24 = .ok (.goto (-17), 3) := dd_get dm_X10_tree_0 14 rfl
theorem dX10_tree_27 : decode cX10_tree 27 = .ok (.iconst 0, 1) := dd_get dm_X10_tree_0 15 rfl
theorem dX10_tree_28 : decode cX10_tree 28 = .ok (.istore_n 1, 1) := dd_get dm_X10_tree_0 16 rfl
theorem dX10_tree_29 : decode cX10_tree 29 = .ok (.iload_n 1, 1) := dd_get dm_X10_tree_0 17 rfl
theorem dX10_tree_30 : decode cX10_tree 30 = .ok (.bipush 12, 2) := dd_get dm_X10_tree_0 18 rfl
theorem dX10_tree_32 : decode cX10_tree 32 = .ok (.if_icmp .ge 16, 3) := dd_get dm_X10_tree_0 19 rfl
theorem dX10_tree_35 : decode cX10_tree 35 = .ok (.aload_n 0, 1) := dd_get dm_X10_tree_0 20 rfl
theorem dX10_tree_36 : decode cX10_tree 36 = .ok (.getfield 75, 3) := dd_get dm_X10_tree_0 21 rfl
theorem dX10_tree_39 : decode cX10_tree 39 = .ok (.iload_n 1, 1) := dd_get dm_X10_tree_0 22 rfl
theorem dX10_tree_40 : decode cX10_tree 40 = .ok (.iload_n 1, 1) := dd_get dm_X10_tree_0 23 rfl
theorem dX10_tree_41 : decode cX10_tree 41 = .ok (.iastore, 1) := dd_get dm_X10_tree_0 24 rfl
theorem dX10_tree_42 : decode cX10_tree 42 = .ok (.iinc 1 1, 3) := dd_get dm_X10_tree_0 25 rfl
theorem dX10_tree_45 : decode cX10_tree 45 = .ok (.goto (-16), 3) := dd_get dm_X10_tree_0 26 rfl
theorem dX10_tree_48 : decode cX10_tree 48 = .ok (.aload_n 0, 1) := dd_get dm_X10_tree_0 27 rfl
theorem dX10_tree_49 : decode cX10_tree 49 = .ok (.iconst 0, 1) := dd_get dm_X10_tree_0 28 rfl
theorem dX10_tree_50 : decode cX10_tree 50 = .ok (.invokevirtual 217, 3) := dd_get dm_X10_tree_0 29 rfl
theorem dX10_tree_53 : decode cX10_tree 53 = .ok (.istore_n 1, 1) := dd_get dm_X10_tree_0 30 rfl
theorem dX10_tree_54 : decode cX10_tree 54 = .ok (.iload_n 1, 1) := dd_get dm_X10_tree_0 31 rfl
theorem dX10_tree_55 : decode cX10_tree 55 = .ok (.ifCond .lt 17, 3) := dd_get dm_X10_tree_0 32 rfl
theorem dX10_tree_58 : decode cX10_tree 58 = .ok (.aload_n 0, 1) := dd_get dm_X10_tree_0 33 rfl
theorem dX10_tree_59 : decode cX10_tree 59 = .ok (.iload_n 1, 1) := dd_get dm_X10_tree_0 34 rfl
theorem dX10_tree_60 : decode cX10_tree 60 = .ok (.invokevirtual 221, 3) := dd_get dm_X10_tree_0 35 rfl
theorem dX10_tree_63 : decode cX10_tree 63 = .ok (.aload_n 0, 1) := dd_get dm_X10_tree_0 36 rfl
theorem dX10_tree_64 : decode cX10_tree 64 = .ok (.iconst 0, 1) := dd_get dm_X10_tree_0 37 rfl
theorem dX10_tree_65 : decode cX10_tree 65 = .ok (.invokevirtual 217, 3) := dd_get dm_X10_tree_0 38 rfl
theorem dX10_tree_68 : decode cX10_tree 68 = .ok (.istore_n 1, 1) := dd_get dm_X10_tree_0 39 rfl
theorem dX10_tree_69 : decode cX10_tree 69 = .ok (.goto (-15), 3) := dd_get dm_X10_tree_0 40 rfl
theorem dX10_tree_72 : decode cX10_tree 72 = .ok (.iconst 0, 1) := dd_get dm_X10_tree_0 41 rfl
theorem dX10_tree_73 : decode cX10_tree 73 = .ok (.istore_n 2, 1) := dd_get dm_X10_tree_0 42 rfl
theorem dX10_tree_74 : decode cX10_tree 74 = .ok (.aload_n 0, 1) := dd_get dm_X10_tree_0 43 rfl
theorem dX10_tree_75 : decode cX10_tree 75 = .ok (.iconst 1, 1) := dd_get dm_X10_tree_0 44 rfl
theorem dX10_tree_76 : decode cX10_tree 76 = .ok (.invokevirtual 217, 3) := dd_get dm_X10_tree_0 45 rfl
theorem dX10_tree_79 : decode cX10_tree 79 = .ok (.istore_n 1, 1) := dd_get dm_X10_tree_0 46 rfl
theorem dX10_tree_80 : decode cX10_tree 80 = .ok (.iload_n 1, 1) := dd_get dm_X10_tree_0 47 rfl
theorem dX10_tree_81 : decode cX10_tree 81 = .ok (.ifCond .lt 25, 3) := dd_get dm_X10_tree_0 48 rfl
theorem dX10_tree_84 : decode cX10_tree 84 = .ok (.iload_n 2, 1) := dd_get dm_X10_tree_0 49 rfl
theorem dX10_tree_85 : decode cX10_tree 85 = .ok (.iconst 2, 1) := dd_get dm_X10_tree_0 50 rfl
theorem dX10_tree_86 : decode cX10_tree 86 = .ok (.if_icmp .ge 20, 3) := dd_get dm_X10_tree_0 51 rfl
theorem dX10_tree_89 : decode cX10_tree 89 = .ok (.aload_n 0, 1) := dd_get dm_X10_tree_0 52 rfl
theorem dX10_tree_90 : decode cX10_tree 90 = .ok (.iload_n 1, 1) := dd_get dm_X10_tree_0 53 rfl
theorem dX10_tree_91 : decode cX10_tree 91 = .ok (.invokevirtual 221, 3) := dd_get dm_X10_tree_0 54 rfl
theorem dX10_tree_94 : decode cX10_tree 94 = .ok (.iinc 2 1, 3) := dd_get dm_X10_tree_0 55 rfl
theorem dX10_tree_97 : decode cX10_tree 97 = .ok (.aload_n 0, 1) := dd_get dm_X10_tree_0 56 rfl
theorem dX10_tree_98 : decode cX10_tree 98 = .ok (.iconst 1, 1) := dd_get dm_X10_tree_0 57 rfl
theorem dX10_tree_99 : decode cX10_tree 99 = .ok (.invokevirtual 217, 3) := dd_get dm_X10_tree_0 58 rfl
theorem dX10_tree_102 : decode cX10_tree 102 = .ok (.istore_n 1, 1) := dd_get dm_X10_tree_0 59 rfl
theorem dm_X10_tree_1 : (([(103, .goto (-23), 3), (106, .lconst 0, 1), (107, .lstore_n 3, 1), (108, .iconst 0, 1), (109, .istore 5, 2), (111, .iload 5, 2), (113, .aload_n 0, 1), (114, .getfield 214, 3), (117, .if_icmp .ge 23, 3), (120, .lload_n 3, 1), (121, .aload_n 0, 1), (122, .aload_n 0, 1), (123, .getfield 78, 3), (126, .iload 5, 2), (128, .iaload, 1), (129, .invokevirtual 197, 3), (132, .ladd, 1), (133, .lstore_n 3, 1), (134, .iinc 5 1, 3), (137, .goto (-26), 3), (140, .iload_n 2, 1), (141, .iconst 2, 1), (142, .if_icmp .ne 7, 3), (145, .iconst 1, 1), (146, .goto 4, 3), (149, .iconst 0, 1), (150, .istore 5, 2), (152, .iconst 0, 1), (153, .istore 6, 2), (155, .iload 6, 2), (157, .aload_n 0, 1), (158, .getfield 107, 3), (161, .if_icmp .ge 77, 3), (164, .iload 5, 2), (166, .aload_n 0, 1), (167, .getfield 45, 3), (170, .iload 6, 2), (172, .baload, 1), (173, .ifCond .ne 22, 3), (176, .aload_n 0, 1), (177, .getfield 75, 3), (180, .iload 6, 2), (182, .iaload, 1), (183, .aload_n 0, 1), (184, .getfield 75, 3), (187, .aload_n 0, 1), (188, .invokevirtual 201, 3), (191, .iaload, 1), (192, .if_icmp .ne 7, 3), (195, .iconst 1, 1), (196, .goto 4, 3), (199, .iconst 0, 1), (200, .iand, 1), (201, .istore 5, 2), (203, .lload_n 3, 1), (204, .aload_n 0, 1), (205, .getfield 45, 3), (208, .iload 6, 2), (210, .baload, 1), (211, .ifCond .eq 7, 3)] : List (Nat × Instr × Nat)).all fun q => decide (decode cX10_tree q.1 = .ok (q.2.1, q.2.2))) = true := by decide +kernel
theorem dX10_tree_103 : decode cX10_tree 103 = .ok (.goto (-23), 3) := dd_get dm_X10_tree_1 0 rfl
theorem dX10_tree_106 : decode cX10_tree 106 = .ok (.lconst 0, 1) := dd_get dm_X10_tree_1 1 rfl
theorem dX10_tree_107 : decode cX10_tree 107 = .ok (.lstore_n 3, 1) := dd_get dm_X10_tree_1 2 rfl
theorem dX10_tree_108 : decode cX10_tree 108 = .ok (.iconst 0, 1) := dd_get dm_X10_tree_1 3 rfl
theorem dX10_tree_109 : decode cX10_tree 109 = .ok (.istore 5, 2) := dd_get dm_X10_tree_1 4 rfl
theorem dX10_tree_111 : decode cX10_tree 111 = .ok (.iload 5, 2) := dd_get dm_X10_tree_1 5 rfl
theorem dX10_tree_113 : decode cX10_tree 113 = .ok (.aload_n 0, 1) := dd_get dm_X10_tree_1 6 rfl
theorem dX10_tree_114 : decode cX10_tree 114 = .ok (.getfield 214, 3) := dd_get dm_X10_tree_1 7 rfl
theorem dX10_tree_117 : decode cX10_tree 117 = .ok (.if_icmp .ge 23, 3) := dd_get dm_X10_tree_1 8 rfl
theorem dX10_tree_120 : decode cX10_tree 120 = .ok (.lload_n 3, 1) := dd_get dm_X10_tree_1 9 rfl
theorem dX10_tree_121 : decode cX10_tree 121 = .ok (.aload_n 0, 1) := dd_get dm_X10_tree_1 10 rfl
theorem dX10_tree_122 : decode cX10_tree 122 = .ok (.aload_n 0, 1) := dd_get dm_X10_tree_1 11 rfl
theorem dX10_tree_123 : decode cX10_tree 123 = .ok (.getfield 78, 3) := dd_get dm_X10_tree_1 12 rfl
theorem dX10_tree_126 : decode cX10_tree 126 = .ok (.iload 5, 2) := dd_get dm_X10_tree_1 13 rfl
theorem dX10_tree_128 : decode cX10_tree 128 = .ok (.iaload, 1) := dd_get dm_X10_tree_1 14 rfl
theorem dX10_tree_129 : decode cX10_tree 129 = .ok (.invokevirtual 197, 3) := dd_get dm_X10_tree_1 15 rfl
theorem dX10_tree_132 : decode cX10_tree 132 = .ok (.ladd, 1) := dd_get dm_X10_tree_1 16 rfl
theorem dX10_tree_133 : decode cX10_tree 133 = .ok (.lstore_n 3, 1) := dd_get dm_X10_tree_1 17 rfl
theorem dX10_tree_134 : decode cX10_tree 134 = .ok (.iinc 5 1, 3) := dd_get dm_X10_tree_1 18 rfl
theorem dX10_tree_137 : decode cX10_tree 137 = .ok (.goto (-26), 3) := dd_get dm_X10_tree_1 19 rfl
theorem dX10_tree_140 : decode cX10_tree 140 = .ok (.iload_n 2, 1) := dd_get dm_X10_tree_1 20 rfl
theorem dX10_tree_141 : decode cX10_tree 141 = .ok (.iconst 2, 1) := dd_get dm_X10_tree_1 21 rfl
theorem dX10_tree_142 : decode cX10_tree 142 = .ok (.if_icmp .ne 7, 3) := dd_get dm_X10_tree_1 22 rfl
theorem dX10_tree_145 : decode cX10_tree 145 = .ok (.iconst 1, 1) := dd_get dm_X10_tree_1 23 rfl
theorem dX10_tree_146 : decode cX10_tree 146 = .ok (.goto 4, 3) := dd_get dm_X10_tree_1 24 rfl
theorem dX10_tree_149 : decode cX10_tree 149 = .ok (.iconst 0, 1) := dd_get dm_X10_tree_1 25 rfl
theorem dX10_tree_150 : decode cX10_tree 150 = .ok (.istore 5, 2) := dd_get dm_X10_tree_1 26 rfl
theorem dX10_tree_152 : decode cX10_tree 152 = .ok (.iconst 0, 1) := dd_get dm_X10_tree_1 27 rfl
theorem dX10_tree_153 : decode cX10_tree 153 = .ok (.istore 6, 2) := dd_get dm_X10_tree_1 28 rfl
theorem dX10_tree_155 : decode cX10_tree 155 = .ok (.iload 6, 2) := dd_get dm_X10_tree_1 29 rfl
theorem dX10_tree_157 : decode cX10_tree 157 = .ok (.aload_n 0, 1) := dd_get dm_X10_tree_1 30 rfl
theorem dX10_tree_158 : decode cX10_tree 158 = .ok (.getfield 107, 3) := dd_get dm_X10_tree_1 31 rfl
theorem dX10_tree_161 : decode cX10_tree 161 = .ok (.if_icmp .ge 77, 3) := dd_get dm_X10_tree_1 32 rfl
theorem dX10_tree_164 : decode cX10_tree 164 = .ok (.iload 5, 2) := dd_get dm_X10_tree_1 33 rfl
theorem dX10_tree_166 : decode cX10_tree 166 = .ok (.aload_n 0, 1) := dd_get dm_X10_tree_1 34 rfl
theorem dX10_tree_167 : decode cX10_tree 167 = .ok (.getfield 45, 3) := dd_get dm_X10_tree_1 35 rfl
theorem dX10_tree_170 : decode cX10_tree 170 = .ok (.iload 6, 2) := dd_get dm_X10_tree_1 36 rfl
theorem dX10_tree_172 : decode cX10_tree 172 = .ok (.baload, 1) := dd_get dm_X10_tree_1 37 rfl
theorem dX10_tree_173 : decode cX10_tree 173 = .ok (.ifCond .ne 22, 3) := dd_get dm_X10_tree_1 38 rfl
theorem dX10_tree_176 : decode cX10_tree 176 = .ok (.aload_n 0, 1) := dd_get dm_X10_tree_1 39 rfl
theorem dX10_tree_177 : decode cX10_tree 177 = .ok (.getfield 75, 3) := dd_get dm_X10_tree_1 40 rfl
theorem dX10_tree_180 : decode cX10_tree 180 = .ok (.iload 6, 2) := dd_get dm_X10_tree_1 41 rfl
theorem dX10_tree_182 : decode cX10_tree 182 = .ok (.iaload, 1) := dd_get dm_X10_tree_1 42 rfl
theorem dX10_tree_183 : decode cX10_tree 183 = .ok (.aload_n 0, 1) := dd_get dm_X10_tree_1 43 rfl
theorem dX10_tree_184 : decode cX10_tree 184 = .ok (.getfield 75, 3) := dd_get dm_X10_tree_1 44 rfl
theorem dX10_tree_187 : decode cX10_tree 187 = .ok (.aload_n 0, 1) := dd_get dm_X10_tree_1 45 rfl
theorem dX10_tree_188 : decode cX10_tree 188 = .ok (.invokevirtual 201, 3) := dd_get dm_X10_tree_1 46 rfl
theorem dX10_tree_191 : decode cX10_tree 191 = .ok (.iaload, 1) := dd_get dm_X10_tree_1 47 rfl
theorem dX10_tree_192 : decode cX10_tree 192 = .ok (.if_icmp .ne 7, 3) := dd_get dm_X10_tree_1 48 rfl
theorem dX10_tree_195 : decode cX10_tree 195 = .ok (.iconst 1, 1) := dd_get dm_X10_tree_1 49 rfl
theorem dX10_tree_196 : decode cX10_tree 196 = .ok (.goto 4, 3) := dd_get dm_X10_tree_1 50 rfl
theorem dX10_tree_199 : decode cX10_tree 199 = .ok (.iconst 0, 1) := dd_get dm_X10_tree_1 51 rfl
theorem dX10_tree_200 : decode cX10_tree 200 = .ok (.iand, 1) := dd_get dm_X10_tree_1 52 rfl
theorem dX10_tree_201 : decode cX10_tree 201 = .ok (.istore 5, 2) := dd_get dm_X10_tree_1 53 rfl
theorem dX10_tree_203 : decode cX10_tree 203 = .ok (.lload_n 3, 1) := dd_get dm_X10_tree_1 54 rfl
theorem dX10_tree_204 : decode cX10_tree 204 = .ok (.aload_n 0, 1) := dd_get dm_X10_tree_1 55 rfl
theorem dX10_tree_205 : decode cX10_tree 205 = .ok (.getfield 45, 3) := dd_get dm_X10_tree_1 56 rfl
theorem dX10_tree_208 : decode cX10_tree 208 = .ok (.iload 6, 2) := dd_get dm_X10_tree_1 57 rfl
theorem dX10_tree_210 : decode cX10_tree 210 = .ok (.baload, 1) := dd_get dm_X10_tree_1 58 rfl
theorem dX10_tree_211 : decode cX10_tree 211 = .ok (.ifCond .eq 7, 3) := dd_get dm_X10_tree_1 59 rfl
theorem dm_X10_tree_2 : (([(214, .lconst 0, 1), (215, .goto 15, 3), (218, .ldc2_w 225, 3), (221, .aload_n 0, 1), (222, .getfield 48, 3), (225, .iload 6, 2), (227, .iaload, 1), (228, .i2l, 1), (229, .lmul, 1), (230, .lsub, 1), (231, .lstore_n 3, 1), (232, .iinc 6 1, 3), (235, .goto (-80), 3), (238, .iload 5, 2), (240, .ifCond .eq 7, 3), (243, .lload_n 3, 1), (244, .goto 6, 3), (247, .ldc2_w 227, 3), (250, .lreturn, 1)] : List (Nat × Instr × Nat)).all fun q => decide (decode cX10_tree q.1 = .ok (q.2.1, q.2.2))) = true := by decide +kernel
theorem dX10_tree_214 : decode cX10_tree 214 = .ok (.lconst 0, 1) := dd_get dm_X10_tree_2 0 rfl
theorem dX10_tree_215 : decode cX10_tree 215 = .ok (.goto 15, 3) := dd_get dm_X10_tree_2 1 rfl
theorem dX10_tree_218 : decode cX10_tree 218 = .ok (.ldc2_w 225, 3) := dd_get dm_X10_tree_2 2 rfl
theorem dX10_tree_221 : decode cX10_tree 221 = .ok (.aload_n 0, 1) := dd_get dm_X10_tree_2 3 rfl
theorem dX10_tree_222 : decode cX10_tree 222 = .ok (.getfield 48, 3) := dd_get dm_X10_tree_2 4 rfl
theorem dX10_tree_225 : decode cX10_tree 225 = .ok (.iload 6, 2) := dd_get dm_X10_tree_2 5 rfl
theorem dX10_tree_227 : decode cX10_tree 227 = .ok (.iaload, 1) := dd_get dm_X10_tree_2 6 rfl
theorem dX10_tree_228 : decode cX10_tree 228 = .ok (.i2l, 1) := dd_get dm_X10_tree_2 7 rfl
theorem dX10_tree_229 : decode cX10_tree 229 = .ok (.lmul, 1) := dd_get dm_X10_tree_2 8 rfl
theorem dX10_tree_230 : decode cX10_tree 230 = .ok (.lsub, 1) := dd_get dm_X10_tree_2 9 rfl
theorem dX10_tree_231 : decode cX10_tree 231 = .ok (.lstore_n 3, 1) := dd_get dm_X10_tree_2 10 rfl
theorem dX10_tree_232 : decode cX10_tree 232 = .ok (.iinc 6 1, 3) := dd_get dm_X10_tree_2 11 rfl
theorem dX10_tree_235 : decode cX10_tree 235 = .ok (.goto (-80), 3) := dd_get dm_X10_tree_2 12 rfl
theorem dX10_tree_238 : decode cX10_tree 238 = .ok (.iload 5, 2) := dd_get dm_X10_tree_2 13 rfl
theorem dX10_tree_240 : decode cX10_tree 240 = .ok (.ifCond .eq 7, 3) := dd_get dm_X10_tree_2 14 rfl
theorem dX10_tree_243 : decode cX10_tree 243 = .ok (.lload_n 3, 1) := dd_get dm_X10_tree_2 15 rfl
theorem dX10_tree_244 : decode cX10_tree 244 = .ok (.goto 6, 3) := dd_get dm_X10_tree_2 16 rfl
theorem dX10_tree_247 : decode cX10_tree 247 = .ok (.ldc2_w 227, 3) := dd_get dm_X10_tree_2 17 rfl
theorem dX10_tree_250 : decode cX10_tree 250 = .ok (.lreturn, 1) := dd_get dm_X10_tree_2 18 rfl
theorem dm_X10_price_0 : (([(0, .aload_n 0, 1), (1, .iload_n 1, 1), (2, .invokevirtual 110, 3), (5, .ifCond .eq 15, 3), (8, .iload_n 2, 1), (9, .ldc 229, 2), (11, .if_icmp .lt 9, 3), (14, .iload_n 2, 1), (15, .ldc 230, 2), (17, .if_icmp .le 5, 3), (20, .iconst (-1), 1), (21, .ireturn, 1), (22, .aload_n 0, 1), (23, .getfield 48, 3), (26, .iload_n 1, 1), (27, .iload_n 2, 1), (28, .iastore, 1), (29, .iconst 1, 1), (30, .ireturn, 1)] : List (Nat × Instr × Nat)).all fun q => decide (decode cX10_price q.1 = .ok (q.2.1, q.2.2))) = true := by decide +kernel
theorem dX10_price_0 : decode cX10_price 0 = .ok (.aload_n 0, 1) := dd_get dm_X10_price_0 0 rfl
theorem dX10_price_1 : decode cX10_price 1 = .ok (.iload_n 1, 1) := dd_get dm_X10_price_0 1 rfl
theorem dX10_price_2 : decode cX10_price 2 = .ok (.invokevirtual 110, 3) := dd_get dm_X10_price_0 2 rfl
theorem dX10_price_5 : decode cX10_price 5 = .ok (.ifCond .eq 15, 3) := dd_get dm_X10_price_0 3 rfl
theorem dX10_price_8 : decode cX10_price 8 = .ok (.iload_n 2, 1) := dd_get dm_X10_price_0 4 rfl
theorem dX10_price_9 : decode cX10_price 9 = .ok (.ldc 229, 2) := dd_get dm_X10_price_0 5 rfl
theorem dX10_price_11 : decode cX10_price 11 = .ok (.if_icmp .lt 9, 3) := dd_get dm_X10_price_0 6 rfl
theorem dX10_price_14 : decode cX10_price 14 = .ok (.iload_n 2, 1) := dd_get dm_X10_price_0 7 rfl
theorem dX10_price_15 : decode cX10_price 15 = .ok (.ldc 230, 2) := dd_get dm_X10_price_0 8 rfl
theorem dX10_price_17 : decode cX10_price 17 = .ok (.if_icmp .le 5, 3) := dd_get dm_X10_price_0 9 rfl
theorem dX10_price_20 : decode cX10_price 20 = .ok (.iconst (-1), 1) := dd_get dm_X10_price_0 10 rfl
theorem dX10_price_21 : decode cX10_price 21 = .ok (.ireturn, 1) := dd_get dm_X10_price_0 11 rfl
theorem dX10_price_22 : decode cX10_price 22 = .ok (.aload_n 0, 1) := dd_get dm_X10_price_0 12 rfl
theorem dX10_price_23 : decode cX10_price 23 = .ok (.getfield 48, 3) := dd_get dm_X10_price_0 13 rfl
theorem dX10_price_26 : decode cX10_price 26 = .ok (.iload_n 1, 1) := dd_get dm_X10_price_0 14 rfl
theorem dX10_price_27 : decode cX10_price 27 = .ok (.iload_n 2, 1) := dd_get dm_X10_price_0 15 rfl
theorem dX10_price_28 : decode cX10_price 28 = .ok (.iastore, 1) := dd_get dm_X10_price_0 16 rfl
theorem dX10_price_29 : decode cX10_price 29 = .ok (.iconst 1, 1) := dd_get dm_X10_price_0 17 rfl
theorem dX10_price_30 : decode cX10_price 30 = .ok (.ireturn, 1) := dd_get dm_X10_price_0 18 rfl
theorem dm_X10_climb_0 : (([(0, .iload_n 1, 1), (1, .iconst 1, 1), (2, .if_icmp .lt 9, 3), (5, .iload_n 1, 1), (6, .bipush 100, 2), (8, .if_icmp .le 5, 3), (11, .iconst (-1), 1), (12, .ireturn, 1), (13, .aload_n 0, 1), (14, .invokevirtual 142, 3), (17, .iconst 3, 1), (18, .if_icmp .ge 6, 3), (21, .bipush (-4), 2), (23, .ireturn, 1), (24, .iconst 0, 1), (25, .istore_n 2, 1), (26, .aload_n 0, 1), (27, .invokevirtual 231, 3), (30, .iconst 0, 1), (31, .istore_n 3, 1), (32, .iload_n 3, 1), (33, .iload_n 1, 1), (34, .if_icmp .ge 122, 3), (37, .aload_n 0, 1), (38, .invokevirtual 234, 3), (41, .ldc2_w 227, 3), (44, .lcmp, 1), (45, .ifCond .eq 105, 3), (48, .iinc 2 1, 3), (51, .iconst 0, 1), (52, .istore 4, 2), (54, .iload 4, 2), (56, .aload_n 0, 1), (57, .getfield 107, 3), (60, .if_icmp .ge 34, 3), (63, .aload_n 0, 1), (64, .getfield 48, 3), (67, .iload 4, 2), (69, .dup2, 1), (70, .iaload, 1), (71, .aload_n 0, 1), (72, .getfield 45, 3), (75, .iload 4, 2), (77, .baload, 1), (78, .ifCond .eq 7, 3), (81, .iconst 0, 1), (82, .goto 4, 3), (85, .iconst 2, 1), (86, .isub, 1), (87, .iastore, 1), (88, .iinc 4 1, 3), (91, .goto (-37), 3), (94, .iconst 0, 1), (95, .istore 4, 2), (97, .iload 4, 2), (99, .aload_n 0, 1), (100, .getfield 214, 3), (103, .if_icmp .ge 47, 3), (106, .aload_n 0, 1), (107, .getfield 48, 3)] : List (Nat × Instr × Nat)).all fun q => decide (decode cX10_climb q.1 = .ok (q.2.1, q.2.2))) = true := by decide +kernel
theorem dX10_climb_0 : decode cX10_climb 0 = .ok (.iload_n 1, 1) := dd_get dm_X10_climb_0 0 rfl
theorem dX10_climb_1 : decode cX10_climb 1 = .ok (.iconst 1, 1) := dd_get dm_X10_climb_0 1 rfl
theorem dX10_climb_2 : decode cX10_climb 2 = .ok (.if_icmp .lt 9, 3) := dd_get dm_X10_climb_0 2 rfl
theorem dX10_climb_5 : decode cX10_climb 5 = .ok (.iload_n 1, 1) := dd_get dm_X10_climb_0 3 rfl
theorem dX10_climb_6 : decode cX10_climb 6 = .ok (.bipush 100, 2) := dd_get dm_X10_climb_0 4 rfl
theorem dX10_climb_8 : decode cX10_climb 8 = .ok (.if_icmp .le 5, 3) := dd_get dm_X10_climb_0 5 rfl
theorem dX10_climb_11 : decode cX10_climb 11 = .ok (.iconst (-1), 1) := dd_get dm_X10_climb_0 6 rfl
theorem dX10_climb_12 : decode cX10_climb 12 = .ok (.ireturn, 1) := dd_get dm_X10_climb_0 7 rfl
theorem dX10_climb_13 : decode cX10_climb 13 = .ok (.aload_n 0, 1) := dd_get dm_X10_climb_0 8 rfl
theorem dX10_climb_14 : decode cX10_climb 14 = .ok (.invokevirtual 142, 3) := dd_get dm_X10_climb_0 9 rfl
theorem dX10_climb_17 : decode cX10_climb 17 = .ok (.iconst 3, 1) := dd_get dm_X10_climb_0 10 rfl
theorem dX10_climb_18 : decode cX10_climb 18 = .ok (.if_icmp .ge 6, 3) := dd_get dm_X10_climb_0 11 rfl
theorem dX10_climb_21 : decode cX10_climb 21 = .ok (.bipush (-4), 2) := dd_get dm_X10_climb_0 12 rfl
theorem dX10_climb_23 : decode cX10_climb 23 = .ok (.ireturn, 1) := dd_get dm_X10_climb_0 13 rfl
theorem dX10_climb_24 : decode cX10_climb 24 = .ok (.iconst 0, 1) := dd_get dm_X10_climb_0 14 rfl
theorem dX10_climb_25 : decode cX10_climb 25 = .ok (.istore_n 2, 1) := dd_get dm_X10_climb_0 15 rfl
theorem dX10_climb_26 : decode cX10_climb 26 = .ok (.aload_n 0, 1) := dd_get dm_X10_climb_0 16 rfl
theorem dX10_climb_27 : decode cX10_climb 27 = .ok (.invokevirtual 231, 3) := dd_get dm_X10_climb_0 17 rfl
theorem dX10_climb_30 : decode cX10_climb 30 = .ok (.iconst 0, 1) := dd_get dm_X10_climb_0 18 rfl
theorem dX10_climb_31 : decode cX10_climb 31 = .ok (.istore_n 3, 1) := dd_get dm_X10_climb_0 19 rfl
theorem dX10_climb_32 : decode cX10_climb 32 = .ok (.iload_n 3, 1) := dd_get dm_X10_climb_0 20 rfl
theorem dX10_climb_33 : decode cX10_climb 33 = .ok (.iload_n 1, 1) := dd_get dm_X10_climb_0 21 rfl
theorem dX10_climb_34 : decode cX10_climb 34 = .ok (.if_icmp .ge 122, 3) := dd_get dm_X10_climb_0 22 rfl
theorem dX10_climb_37 : decode cX10_climb 37 = .ok (.aload_n 0, 1) := dd_get dm_X10_climb_0 23 rfl
theorem dX10_climb_38 : decode cX10_climb 38 = .ok (.invokevirtual 234, 3) := dd_get dm_X10_climb_0 24 rfl
theorem dX10_climb_41 : decode cX10_climb 41 = .ok (.ldc2_w 227, 3) := dd_get dm_X10_climb_0 25 rfl
theorem dX10_climb_44 : decode cX10_climb 44 = .ok (.lcmp, 1) := dd_get dm_X10_climb_0 26 rfl
theorem dX10_climb_45 : decode cX10_climb 45 = .ok (.ifCond .eq 105, 3) := dd_get dm_X10_climb_0 27 rfl
theorem dX10_climb_48 : decode cX10_climb 48 = .ok (.iinc 2 1, 3) := dd_get dm_X10_climb_0 28 rfl
theorem dX10_climb_51 : decode cX10_climb 51 = .ok (.iconst 0, 1) := dd_get dm_X10_climb_0 29 rfl
theorem dX10_climb_52 : decode cX10_climb 52 = .ok (.istore 4, 2) := dd_get dm_X10_climb_0 30 rfl
theorem dX10_climb_54 : decode cX10_climb 54 = .ok (.iload 4, 2) := dd_get dm_X10_climb_0 31 rfl
theorem dX10_climb_56 : decode cX10_climb 56 = .ok (.aload_n 0, 1) := dd_get dm_X10_climb_0 32 rfl
theorem dX10_climb_57 : decode cX10_climb 57 = .ok (.getfield 107, 3) := dd_get dm_X10_climb_0 33 rfl
theorem dX10_climb_60 : decode cX10_climb 60 = .ok (.if_icmp .ge 34, 3) := dd_get dm_X10_climb_0 34 rfl
theorem dX10_climb_63 : decode cX10_climb 63 = .ok (.aload_n 0, 1) := dd_get dm_X10_climb_0 35 rfl
theorem dX10_climb_64 : decode cX10_climb 64 = .ok (.getfield 48, 3) := dd_get dm_X10_climb_0 36 rfl
theorem dX10_climb_67 : decode cX10_climb 67 = .ok (.iload 4, 2) := dd_get dm_X10_climb_0 37 rfl
theorem dX10_climb_69 : decode cX10_climb 69 = .ok (.dup2, 1) := dd_get dm_X10_climb_0 38 rfl
theorem dX10_climb_70 : decode cX10_climb 70 = .ok (.iaload, 1) := dd_get dm_X10_climb_0 39 rfl
theorem dX10_climb_71 : decode cX10_climb 71 = .ok (.aload_n 0, 1) := dd_get dm_X10_climb_0 40 rfl
theorem dX10_climb_72 : decode cX10_climb 72 = .ok (.getfield 45, 3) := dd_get dm_X10_climb_0 41 rfl
theorem dX10_climb_75 : decode cX10_climb 75 = .ok (.iload 4, 2) := dd_get dm_X10_climb_0 42 rfl
theorem dX10_climb_77 : decode cX10_climb 77 = .ok (.baload, 1) := dd_get dm_X10_climb_0 43 rfl
theorem dX10_climb_78 : decode cX10_climb 78 = .ok (.ifCond .eq 7, 3) := dd_get dm_X10_climb_0 44 rfl
theorem dX10_climb_81 : decode cX10_climb 81 = .ok (.iconst 0, 1) := dd_get dm_X10_climb_0 45 rfl
theorem dX10_climb_82 : decode cX10_climb 82 = .ok (.goto 4, 3) := dd_get dm_X10_climb_0 46 rfl
theorem dX10_climb_85 : decode cX10_climb 85 = .ok (.iconst 2, 1) := dd_get dm_X10_climb_0 47 rfl
theorem dX10_climb_86 : decode cX10_climb 86 = .ok (.isub, 1) := dd_get dm_X10_climb_0 48 rfl
theorem dX10_climb_87 : decode cX10_climb 87 = .ok (.iastore, 1) := dd_get dm_X10_climb_0 49 rfl
theorem dX10_climb_88 : decode cX10_climb 88 = .ok (.iinc 4 1, 3) := dd_get dm_X10_climb_0 50 rfl
theorem dX10_climb_91 : decode cX10_climb 91 = .ok (.goto (-37), 3) := dd_get dm_X10_climb_0 51 rfl
theorem dX10_climb_94 : decode cX10_climb 94 = .ok (.iconst 0, 1) := dd_get dm_X10_climb_0 52 rfl
theorem dX10_climb_95 : decode cX10_climb 95 = .ok (.istore 4, 2) := dd_get dm_X10_climb_0 53 rfl
theorem dX10_climb_97 : decode cX10_climb 97 = .ok (.iload 4, 2) := dd_get dm_X10_climb_0 54 rfl
theorem dX10_climb_99 : decode cX10_climb 99 = .ok (.aload_n 0, 1) := dd_get dm_X10_climb_0 55 rfl
theorem dX10_climb_100 : decode cX10_climb 100 = .ok (.getfield 214, 3) := dd_get dm_X10_climb_0 56 rfl
theorem dX10_climb_103 : decode cX10_climb 103 = .ok (.if_icmp .ge 47, 3) := dd_get dm_X10_climb_0 57 rfl
theorem dX10_climb_106 : decode cX10_climb 106 = .ok (.aload_n 0, 1) := dd_get dm_X10_climb_0 58 rfl
theorem dX10_climb_107 : decode cX10_climb 107 = .ok (.getfield 48, 3) := dd_get dm_X10_climb_0 59 rfl
theorem dm_X10_climb_1 : (([(110, .aload_n 0, 1), (111, .getfield 78, 3), (114, .iload 4, 2), (116, .iaload, 1), (117, .bipush 12, 2), (119, .idiv, 1), (120, .dup2, 1), (121, .iaload, 1), (122, .iconst 1, 1), (123, .iadd, 1), (124, .iastore, 1), (125, .aload_n 0, 1), (126, .getfield 48, 3), (129, .aload_n 0, 1), (130, .getfield 78, 3), (133, .iload 4, 2), (135, .iaload, 1), (136, .bipush 12, 2), (138, .irem, 1), (139, .dup2, 1), (140, .iaload, 1), (141, .iconst 1, 1), (142, .iadd, 1), (143, .iastore, 1), (144, .iinc 4 1, 3), (147, .goto (-50), 3), (150, .iinc 3 1, 3), (153, .goto (-121), 3), (156, .iload_n 2, 1), (157, .ireturn, 1)] : List (Nat × Instr × Nat)).all fun q => decide (decode cX10_climb q.1 = .ok (q.2.1, q.2.2))) = true := by decide +kernel
theorem dX10_climb_110 : decode cX10_climb 110 = .ok (.aload_n 0, 1) := dd_get dm_X10_climb_1 0 rfl
theorem dX10_climb_111 : decode cX10_climb 111 = .ok (.getfield 78, 3) := dd_get dm_X10_climb_1 1 rfl
theorem dX10_climb_114 : decode cX10_climb 114 = .ok (.iload 4, 2) := dd_get dm_X10_climb_1 2 rfl
theorem dX10_climb_116 : decode cX10_climb 116 = .ok (.iaload, 1) := dd_get dm_X10_climb_1 3 rfl
theorem dX10_climb_117 : decode cX10_climb 117 = .ok (.bipush 12, 2) := dd_get dm_X10_climb_1 4 rfl
theorem dX10_climb_119 : decode cX10_climb 119 = .ok (.idiv, 1) := dd_get dm_X10_climb_1 5 rfl
theorem dX10_climb_120 : decode cX10_climb 120 = .ok (.dup2, 1) := dd_get dm_X10_climb_1 6 rfl
theorem dX10_climb_121 : decode cX10_climb 121 = .ok (.iaload, 1) := dd_get dm_X10_climb_1 7 rfl
theorem dX10_climb_122 : decode cX10_climb 122 = .ok (.iconst 1, 1) := dd_get dm_X10_climb_1 8 rfl
theorem dX10_climb_123 : decode cX10_climb 123 = .ok (.iadd, 1) := dd_get dm_X10_climb_1 9 rfl
theorem dX10_climb_124 : decode cX10_climb 124 = .ok (.iastore, 1) := dd_get dm_X10_climb_1 10 rfl
theorem dX10_climb_125 : decode cX10_climb 125 = .ok (.aload_n 0, 1) := dd_get dm_X10_climb_1 11 rfl
theorem dX10_climb_126 : decode cX10_climb 126 = .ok (.getfield 48, 3) := dd_get dm_X10_climb_1 12 rfl
theorem dX10_climb_129 : decode cX10_climb 129 = .ok (.aload_n 0, 1) := dd_get dm_X10_climb_1 13 rfl
theorem dX10_climb_130 : decode cX10_climb 130 = .ok (.getfield 78, 3) := dd_get dm_X10_climb_1 14 rfl
theorem dX10_climb_133 : decode cX10_climb 133 = .ok (.iload 4, 2) := dd_get dm_X10_climb_1 15 rfl
theorem dX10_climb_135 : decode cX10_climb 135 = .ok (.iaload, 1) := dd_get dm_X10_climb_1 16 rfl
theorem dX10_climb_136 : decode cX10_climb 136 = .ok (.bipush 12, 2) := dd_get dm_X10_climb_1 17 rfl
theorem dX10_climb_138 : decode cX10_climb 138 = .ok (.irem, 1) := dd_get dm_X10_climb_1 18 rfl
theorem dX10_climb_139 : decode cX10_climb 139 = .ok (.dup2, 1) := dd_get dm_X10_climb_1 19 rfl
theorem dX10_climb_140 : decode cX10_climb 140 = .ok (.iaload, 1) := dd_get dm_X10_climb_1 20 rfl
theorem dX10_climb_141 : decode cX10_climb 141 = .ok (.iconst 1, 1) := dd_get dm_X10_climb_1 21 rfl
theorem dX10_climb_142 : decode cX10_climb 142 = .ok (.iadd, 1) := dd_get dm_X10_climb_1 22 rfl
theorem dX10_climb_143 : decode cX10_climb 143 = .ok (.iastore, 1) := dd_get dm_X10_climb_1 23 rfl
theorem dX10_climb_144 : decode cX10_climb 144 = .ok (.iinc 4 1, 3) := dd_get dm_X10_climb_1 24 rfl
theorem dX10_climb_147 : decode cX10_climb 147 = .ok (.goto (-50), 3) := dd_get dm_X10_climb_1 25 rfl
theorem dX10_climb_150 : decode cX10_climb 150 = .ok (.iinc 3 1, 3) := dd_get dm_X10_climb_1 26 rfl
theorem dX10_climb_153 : decode cX10_climb 153 = .ok (.goto (-121), 3) := dd_get dm_X10_climb_1 27 rfl
theorem dX10_climb_156 : decode cX10_climb 156 = .ok (.iload_n 2, 1) := dd_get dm_X10_climb_1 28 rfl
theorem dX10_climb_157 : decode cX10_climb 157 = .ok (.ireturn, 1) := dd_get dm_X10_climb_1 29 rfl
theorem dm_X10_bound_0 : (([(0, .aload_n 0, 1), (1, .invokevirtual 142, 3), (4, .iconst 3, 1), (5, .if_icmp .ge 7, 3), (8, .ldc2_w 238, 3), (11, .lreturn, 1), (12, .aload_n 0, 1), (13, .invokevirtual 231, 3), (16, .aload_n 0, 1), (17, .invokevirtual 234, 3), (20, .lreturn, 1)] : List (Nat × Instr × Nat)).all fun q => decide (decode cX10_bound q.1 = .ok (q.2.1, q.2.2))) = true := by decide +kernel
theorem dX10_bound_0 : decode cX10_bound 0 = .ok (.aload_n 0, 1) := dd_get dm_X10_bound_0 0 rfl
theorem dX10_bound_1 : decode cX10_bound 1 = .ok (.invokevirtual 142, 3) := dd_get dm_X10_bound_0 1 rfl
theorem dX10_bound_4 : decode cX10_bound 4 = .ok (.iconst 3, 1) := dd_get dm_X10_bound_0 2 rfl
theorem dX10_bound_5 : decode cX10_bound 5 = .ok (.if_icmp .ge 7, 3) := dd_get dm_X10_bound_0 3 rfl
theorem dX10_bound_8 : decode cX10_bound 8 = .ok (.ldc2_w 238, 3) := dd_get dm_X10_bound_0 4 rfl
theorem dX10_bound_11 : decode cX10_bound 11 = .ok (.lreturn, 1) := dd_get dm_X10_bound_0 5 rfl
theorem dX10_bound_12 : decode cX10_bound 12 = .ok (.aload_n 0, 1) := dd_get dm_X10_bound_0 6 rfl
theorem dX10_bound_13 : decode cX10_bound 13 = .ok (.invokevirtual 231, 3) := dd_get dm_X10_bound_0 7 rfl
theorem dX10_bound_16 : decode cX10_bound 16 = .ok (.aload_n 0, 1) := dd_get dm_X10_bound_0 8 rfl
theorem dX10_bound_17 : decode cX10_bound 17 = .ok (.invokevirtual 234, 3) := dd_get dm_X10_bound_0 9 rfl
theorem dX10_bound_20 : decode cX10_bound 20 = .ok (.lreturn, 1) := dd_get dm_X10_bound_0 10 rfl
theorem dm_X10_taken_0 : (([(0, .aload_n 0, 1), (1, .invokevirtual 142, 3), (4, .iconst 3, 1), (5, .if_icmp .ge 5, 3), (8, .iconst (-1), 1), (9, .ireturn, 1), (10, .aload_n 0, 1), (11, .invokevirtual 231, 3), (14, .aload_n 0, 1), (15, .invokevirtual 234, 3), (18, .lstore_n 2, 1), (19, .iload_n 1, 1), (20, .ifCond .lt 11, 3), (23, .iload_n 1, 1), (24, .aload_n 0, 1), (25, .getfield 214, 3), (28, .if_icmp .lt 7, 3), (31, .iconst (-1), 1), (32, .goto 25, 3), (35, .bipush 16, 2), (37, .aload_n 0, 1), (38, .getfield 78, 3), (41, .iload_n 1, 1), (42, .iaload, 1), (43, .bipush 12, 2), (45, .idiv, 1), (46, .imul, 1), (47, .aload_n 0, 1), (48, .getfield 78, 3), (51, .iload_n 1, 1), (52, .iaload, 1), (53, .bipush 12, 2), (55, .irem, 1), (56, .iadd, 1), (57, .ireturn, 1)] : List (Nat × Instr × Nat)).all fun q => decide (decode cX10_taken q.1 = .ok (q.2.1, q.2.2))) = true := by decide +kernel
theorem dX10_taken_0 : decode cX10_taken 0 = .ok (.aload_n 0, 1) := dd_get dm_X10_taken_0 0 rfl
theorem dX10_taken_1 : decode cX10_taken 1 = .ok (.invokevirtual 142, 3) := dd_get dm_X10_taken_0 1 rfl
theorem dX10_taken_4 : decode cX10_taken 4 = .ok (.iconst 3, 1) := dd_get dm_X10_taken_0 2 rfl
theorem dX10_taken_5 : decode cX10_taken 5 = .ok (.if_icmp .ge 5, 3) := dd_get dm_X10_taken_0 3 rfl
theorem dX10_taken_8 : decode cX10_taken 8 = .ok (.iconst (-1), 1) := dd_get dm_X10_taken_0 4 rfl
theorem dX10_taken_9 : decode cX10_taken 9 = .ok (.ireturn, 1) := dd_get dm_X10_taken_0 5 rfl
theorem dX10_taken_10 : decode cX10_taken 10 = .ok (.aload_n 0, 1) := dd_get dm_X10_taken_0 6 rfl
theorem dX10_taken_11 : decode cX10_taken 11 = .ok (.invokevirtual 231, 3) := dd_get dm_X10_taken_0 7 rfl
theorem dX10_taken_14 : decode cX10_taken 14 = .ok (.aload_n 0, 1) := dd_get dm_X10_taken_0 8 rfl
theorem dX10_taken_15 : decode cX10_taken 15 = .ok (.invokevirtual 234, 3) := dd_get dm_X10_taken_0 9 rfl
theorem dX10_taken_18 : decode cX10_taken 18 = .ok (.lstore_n 2, 1) := dd_get dm_X10_taken_0 10 rfl
theorem dX10_taken_19 : decode cX10_taken 19 = .ok (.iload_n 1, 1) := dd_get dm_X10_taken_0 11 rfl
theorem dX10_taken_20 : decode cX10_taken 20 = .ok (.ifCond .lt 11, 3) := dd_get dm_X10_taken_0 12 rfl
theorem dX10_taken_23 : decode cX10_taken 23 = .ok (.iload_n 1, 1) := dd_get dm_X10_taken_0 13 rfl
theorem dX10_taken_24 : decode cX10_taken 24 = .ok (.aload_n 0, 1) := dd_get dm_X10_taken_0 14 rfl
theorem dX10_taken_25 : decode cX10_taken 25 = .ok (.getfield 214, 3) := dd_get dm_X10_taken_0 15 rfl
theorem dX10_taken_28 : decode cX10_taken 28 = .ok (.if_icmp .lt 7, 3) := dd_get dm_X10_taken_0 16 rfl
theorem dX10_taken_31 : decode cX10_taken 31 = .ok (.iconst (-1), 1) := dd_get dm_X10_taken_0 17 rfl
theorem dX10_taken_32 : decode cX10_taken 32 = .ok (.goto 25, 3) := dd_get dm_X10_taken_0 18 rfl
theorem dX10_taken_35 : decode cX10_taken 35 = .ok (.bipush 16, 2) := dd_get dm_X10_taken_0 19 rfl
theorem dX10_taken_37 : decode cX10_taken 37 = .ok (.aload_n 0, 1) := dd_get dm_X10_taken_0 20 rfl
theorem dX10_taken_38 : decode cX10_taken 38 = .ok (.getfield 78, 3) := dd_get dm_X10_taken_0 21 rfl
theorem dX10_taken_41 : decode cX10_taken 41 = .ok (.iload_n 1, 1) := dd_get dm_X10_taken_0 22 rfl
theorem dX10_taken_42 : decode cX10_taken 42 = .ok (.iaload, 1) := dd_get dm_X10_taken_0 23 rfl
theorem dX10_taken_43 : decode cX10_taken 43 = .ok (.bipush 12, 2) := dd_get dm_X10_taken_0 24 rfl
theorem dX10_taken_45 : decode cX10_taken 45 = .ok (.idiv, 1) := dd_get dm_X10_taken_0 25 rfl
theorem dX10_taken_46 : decode cX10_taken 46 = .ok (.imul, 1) := dd_get dm_X10_taken_0 26 rfl
theorem dX10_taken_47 : decode cX10_taken 47 = .ok (.aload_n 0, 1) := dd_get dm_X10_taken_0 27 rfl
theorem dX10_taken_48 : decode cX10_taken 48 = .ok (.getfield 78, 3) := dd_get dm_X10_taken_0 28 rfl
theorem dX10_taken_51 : decode cX10_taken 51 = .ok (.iload_n 1, 1) := dd_get dm_X10_taken_0 29 rfl
theorem dX10_taken_52 : decode cX10_taken 52 = .ok (.iaload, 1) := dd_get dm_X10_taken_0 30 rfl
theorem dX10_taken_53 : decode cX10_taken 53 = .ok (.bipush 12, 2) := dd_get dm_X10_taken_0 31 rfl
theorem dX10_taken_55 : decode cX10_taken 55 = .ok (.irem, 1) := dd_get dm_X10_taken_0 32 rfl
theorem dX10_taken_56 : decode cX10_taken 56 = .ok (.iadd, 1) := dd_get dm_X10_taken_0 33 rfl
theorem dX10_taken_57 : decode cX10_taken 57 = .ok (.ireturn, 1) := dd_get dm_X10_taken_0 34 rfl
theorem dm_X10_pushCase_0 : (([(0, .iconst 0, 1), (1, .istore_n 1, 1), (2, .iload_n 1, 1), (3, .sipush 144, 3), (6, .if_icmp .ge 30, 3), (9, .aload_n 0, 1), (10, .getfield 84, 3), (13, .sipush 144, 3), (16, .aload_n 0, 1), (17, .getfield 240, 3), (20, .imul, 1), (21, .iload_n 1, 1), (22, .iadd, 1), (23, .aload_n 0, 1), (24, .getfield 72, 3), (27, .iload_n 1, 1), (28, .iaload, 1), (29, .iastore, 1), (30, .iinc 1 1, 3), (33, .goto (-31), 3), (36, .aload_n 0, 1), (37, .dup, 1), (38, .getfield 240, 3), (41, .iconst 1, 1), (42, .iadd, 1), (43, .putfield 240, 3), (46, .return_, 1)] : List (Nat × Instr × Nat)).all fun q => decide (decode cX10_pushCase q.1 = .ok (q.2.1, q.2.2))) = true := by decide +kernel
theorem dX10_pushCase_0 : decode cX10_pushCase 0 = .ok (.iconst 0, 1) := dd_get dm_X10_pushCase_0 0 rfl
theorem dX10_pushCase_1 : decode cX10_pushCase 1 = .ok (.istore_n 1, 1) := dd_get dm_X10_pushCase_0 1 rfl
theorem dX10_pushCase_2 : decode cX10_pushCase 2 = .ok (.iload_n 1, 1) := dd_get dm_X10_pushCase_0 2 rfl
theorem dX10_pushCase_3 : decode cX10_pushCase 3 = .ok (.sipush 144, 3) := dd_get dm_X10_pushCase_0 3 rfl
theorem dX10_pushCase_6 : decode cX10_pushCase 6 = .ok (.if_icmp .ge 30, 3) := dd_get dm_X10_pushCase_0 4 rfl
theorem dX10_pushCase_9 : decode cX10_pushCase 9 = .ok (.aload_n 0, 1) := dd_get dm_X10_pushCase_0 5 rfl
theorem dX10_pushCase_10 : decode cX10_pushCase 10 = .ok (.getfield 84, 3) := dd_get dm_X10_pushCase_0 6 rfl
theorem dX10_pushCase_13 : decode cX10_pushCase 13 = .ok (.sipush 144, 3) := dd_get dm_X10_pushCase_0 7 rfl
theorem dX10_pushCase_16 : decode cX10_pushCase 16 = .ok (.aload_n 0, 1) := dd_get dm_X10_pushCase_0 8 rfl
theorem dX10_pushCase_17 : decode cX10_pushCase 17 = .ok (.getfield 240, 3) := dd_get dm_X10_pushCase_0 9 rfl
theorem dX10_pushCase_20 : decode cX10_pushCase 20 = .ok (.imul, 1) := dd_get dm_X10_pushCase_0 10 rfl
theorem dX10_pushCase_21 : decode cX10_pushCase 21 = .ok (.iload_n 1, 1) := dd_get dm_X10_pushCase_0 11 rfl
theorem dX10_pushCase_22 : decode cX10_pushCase 22 = .ok (.iadd, 1) := dd_get dm_X10_pushCase_0 12 rfl
theorem dX10_pushCase_23 : decode cX10_pushCase 23 = .ok (.aload_n 0, 1) := dd_get dm_X10_pushCase_0 13 rfl
theorem dX10_pushCase_24 : decode cX10_pushCase 24 = .ok (.getfield 72, 3) := dd_get dm_X10_pushCase_0 14 rfl
theorem dX10_pushCase_27 : decode cX10_pushCase 27 = .ok (.iload_n 1, 1) := dd_get dm_X10_pushCase_0 15 rfl
theorem dX10_pushCase_28 : decode cX10_pushCase 28 = .ok (.iaload, 1) := dd_get dm_X10_pushCase_0 16 rfl
theorem dX10_pushCase_29 : decode cX10_pushCase 29 = .ok (.iastore, 1) := dd_get dm_X10_pushCase_0 17 rfl
theorem dX10_pushCase_30 : decode cX10_pushCase 30 = .ok (.iinc 1 1, 3) := dd_get dm_X10_pushCase_0 18 rfl
theorem dX10_pushCase_33 : decode cX10_pushCase 33 = .ok (.goto (-31), 3) := dd_get dm_X10_pushCase_0 19 rfl
theorem dX10_pushCase_36 : decode cX10_pushCase 36 = .ok (.aload_n 0, 1) := dd_get dm_X10_pushCase_0 20 rfl
theorem dX10_pushCase_37 : decode cX10_pushCase 37 = .ok (.dup, 1) := dd_get dm_X10_pushCase_0 21 rfl
theorem dX10_pushCase_38 : decode cX10_pushCase 38 = .ok (.getfield 240, 3) := dd_get dm_X10_pushCase_0 22 rfl
theorem dX10_pushCase_41 : decode cX10_pushCase 41 = .ok (.iconst 1, 1) := dd_get dm_X10_pushCase_0 23 rfl
theorem dX10_pushCase_42 : decode cX10_pushCase 42 = .ok (.iadd, 1) := dd_get dm_X10_pushCase_0 24 rfl
theorem dX10_pushCase_43 : decode cX10_pushCase 43 = .ok (.putfield 240, 3) := dd_get dm_X10_pushCase_0 25 rfl
theorem dX10_pushCase_46 : decode cX10_pushCase 46 = .ok (.return_, 1) := dd_get dm_X10_pushCase_0 26 rfl
theorem dm_X10_popCase_0 : (([(0, .aload_n 0, 1), (1, .dup, 1), (2, .getfield 240, 3), (5, .iconst 1, 1), (6, .isub, 1), (7, .putfield 240, 3), (10, .iconst 0, 1), (11, .istore_n 1, 1), (12, .iload_n 1, 1), (13, .sipush 144, 3), (16, .if_icmp .ge 30, 3), (19, .aload_n 0, 1), (20, .getfield 72, 3), (23, .iload_n 1, 1), (24, .aload_n 0, 1), (25, .getfield 84, 3), (28, .sipush 144, 3), (31, .aload_n 0, 1), (32, .getfield 240, 3), (35, .imul, 1), (36, .iload_n 1, 1), (37, .iadd, 1), (38, .iaload, 1), (39, .iastore, 1), (40, .iinc 1 1, 3), (43, .goto (-31), 3), (46, .return_, 1)] : List (Nat × Instr × Nat)).all fun q => decide (decode cX10_popCase q.1 = .ok (q.2.1, q.2.2))) = true := by decide +kernel
theorem dX10_popCase_0 : decode cX10_popCase 0 = .ok (.aload_n 0, 1) := dd_get dm_X10_popCase_0 0 rfl
theorem dX10_popCase_1 : decode cX10_popCase 1 = .ok (.dup, 1) := dd_get dm_X10_popCase_0 1 rfl
theorem dX10_popCase_2 : decode cX10_popCase 2 = .ok (.getfield 240, 3) := dd_get dm_X10_popCase_0 2 rfl
theorem dX10_popCase_5 : decode cX10_popCase 5 = .ok (.iconst 1, 1) := dd_get dm_X10_popCase_0 3 rfl
theorem dX10_popCase_6 : decode cX10_popCase 6 = .ok (.isub, 1) := dd_get dm_X10_popCase_0 4 rfl
theorem dX10_popCase_7 : decode cX10_popCase 7 = .ok (.putfield 240, 3) := dd_get dm_X10_popCase_0 5 rfl
theorem dX10_popCase_10 : decode cX10_popCase 10 = .ok (.iconst 0, 1) := dd_get dm_X10_popCase_0 6 rfl
theorem dX10_popCase_11 : decode cX10_popCase 11 = .ok (.istore_n 1, 1) := dd_get dm_X10_popCase_0 7 rfl
theorem dX10_popCase_12 : decode cX10_popCase 12 = .ok (.iload_n 1, 1) := dd_get dm_X10_popCase_0 8 rfl
theorem dX10_popCase_13 : decode cX10_popCase 13 = .ok (.sipush 144, 3) := dd_get dm_X10_popCase_0 9 rfl
theorem dX10_popCase_16 : decode cX10_popCase 16 = .ok (.if_icmp .ge 30, 3) := dd_get dm_X10_popCase_0 10 rfl
theorem dX10_popCase_19 : decode cX10_popCase 19 = .ok (.aload_n 0, 1) := dd_get dm_X10_popCase_0 11 rfl
theorem dX10_popCase_20 : decode cX10_popCase 20 = .ok (.getfield 72, 3) := dd_get dm_X10_popCase_0 12 rfl
theorem dX10_popCase_23 : decode cX10_popCase 23 = .ok (.iload_n 1, 1) := dd_get dm_X10_popCase_0 13 rfl
theorem dX10_popCase_24 : decode cX10_popCase 24 = .ok (.aload_n 0, 1) := dd_get dm_X10_popCase_0 14 rfl
theorem dX10_popCase_25 : decode cX10_popCase 25 = .ok (.getfield 84, 3) := dd_get dm_X10_popCase_0 15 rfl
theorem dX10_popCase_28 : decode cX10_popCase 28 = .ok (.sipush 144, 3) := dd_get dm_X10_popCase_0 16 rfl
theorem dX10_popCase_31 : decode cX10_popCase 31 = .ok (.aload_n 0, 1) := dd_get dm_X10_popCase_0 17 rfl
theorem dX10_popCase_32 : decode cX10_popCase 32 = .ok (.getfield 240, 3) := dd_get dm_X10_popCase_0 18 rfl
theorem dX10_popCase_35 : decode cX10_popCase 35 = .ok (.imul, 1) := dd_get dm_X10_popCase_0 19 rfl
theorem dX10_popCase_36 : decode cX10_popCase 36 = .ok (.iload_n 1, 1) := dd_get dm_X10_popCase_0 20 rfl
theorem dX10_popCase_37 : decode cX10_popCase 37 = .ok (.iadd, 1) := dd_get dm_X10_popCase_0 21 rfl
theorem dX10_popCase_38 : decode cX10_popCase 38 = .ok (.iaload, 1) := dd_get dm_X10_popCase_0 22 rfl
theorem dX10_popCase_39 : decode cX10_popCase 39 = .ok (.iastore, 1) := dd_get dm_X10_popCase_0 23 rfl
theorem dX10_popCase_40 : decode cX10_popCase 40 = .ok (.iinc 1 1, 3) := dd_get dm_X10_popCase_0 24 rfl
theorem dX10_popCase_43 : decode cX10_popCase 43 = .ok (.goto (-31), 3) := dd_get dm_X10_popCase_0 25 rfl
theorem dX10_popCase_46 : decode cX10_popCase 46 = .ok (.return_, 1) := dd_get dm_X10_popCase_0 26 rfl
theorem dm_X10_joinedOf_0 : (([(0, .iconst 0, 1), (1, .istore_n 2, 1), (2, .iconst 0, 1), (3, .istore_n 3, 1), (4, .iload_n 3, 1), (5, .aload_n 0, 1), (6, .getfield 107, 3), (9, .if_icmp .ge 44, 3), (12, .iload_n 2, 1), (13, .iload_n 3, 1), (14, .iload_n 1, 1), (15, .if_icmp .eq 29, 3), (18, .aload_n 0, 1), (19, .iload_n 3, 1), (20, .invokevirtual 186, 3), (23, .ifCond .eq 21, 3), (26, .aload_n 0, 1), (27, .getfield 72, 3), (30, .iload_n 1, 1), (31, .iload_n 3, 1), (32, .invokestatic 243, 3), (35, .iaload, 1), (36, .iconst 1, 1), (37, .if_icmp .ne 7, 3), (40, .iconst 1, 1), (41, .goto 4, 3), (44, .iconst 0, 1), (45, .iadd, 1), (46, .istore_n 2, 1), (47, .iinc 3 1, 3), (50, .goto (-46), 3), (53, .iload_n 2, 1), (54, .ireturn, 1)] : List (Nat × Instr × Nat)).all fun q => decide (decode cX10_joinedOf q.1 = .ok (q.2.1, q.2.2))) = true := by decide +kernel
theorem dX10_joinedOf_0 : decode cX10_joinedOf 0 = .ok (.iconst 0, 1) := dd_get dm_X10_joinedOf_0 0 rfl
theorem dX10_joinedOf_1 : decode cX10_joinedOf 1 = .ok (.istore_n 2, 1) := dd_get dm_X10_joinedOf_0 1 rfl
theorem dX10_joinedOf_2 : decode cX10_joinedOf 2 = .ok (.iconst 0, 1) := dd_get dm_X10_joinedOf_0 2 rfl
theorem dX10_joinedOf_3 : decode cX10_joinedOf 3 = .ok (.istore_n 3, 1) := dd_get dm_X10_joinedOf_0 3 rfl
theorem dX10_joinedOf_4 : decode cX10_joinedOf 4 = .ok (.iload_n 3, 1) := dd_get dm_X10_joinedOf_0 4 rfl
theorem dX10_joinedOf_5 : decode cX10_joinedOf 5 = .ok (.aload_n 0, 1) := dd_get dm_X10_joinedOf_0 5 rfl
theorem dX10_joinedOf_6 : decode cX10_joinedOf 6 = .ok (.getfield 107, 3) := dd_get dm_X10_joinedOf_0 6 rfl
theorem dX10_joinedOf_9 : decode cX10_joinedOf 9 = .ok (.if_icmp .ge 44, 3) := dd_get dm_X10_joinedOf_0 7 rfl
theorem dX10_joinedOf_12 : decode cX10_joinedOf 12 = .ok (.iload_n 2, 1) := dd_get dm_X10_joinedOf_0 8 rfl
theorem dX10_joinedOf_13 : decode cX10_joinedOf 13 = .ok (.iload_n 3, 1) := dd_get dm_X10_joinedOf_0 9 rfl
theorem dX10_joinedOf_14 : decode cX10_joinedOf 14 = .ok (.iload_n 1, 1) := dd_get dm_X10_joinedOf_0 10 rfl
theorem dX10_joinedOf_15 : decode cX10_joinedOf 15 = .ok (.if_icmp .eq 29, 3) := dd_get dm_X10_joinedOf_0 11 rfl
theorem dX10_joinedOf_18 : decode cX10_joinedOf 18 = .ok (.aload_n 0, 1) := dd_get dm_X10_joinedOf_0 12 rfl
theorem dX10_joinedOf_19 : decode cX10_joinedOf 19 = .ok (.iload_n 3, 1) := dd_get dm_X10_joinedOf_0 13 rfl
theorem dX10_joinedOf_20 : decode cX10_joinedOf 20 = .ok (.invokevirtual 186, 3) := dd_get dm_X10_joinedOf_0 14 rfl
theorem dX10_joinedOf_23 : decode cX10_joinedOf 23 = .ok (.ifCond .eq 21, 3) := dd_get dm_X10_joinedOf_0 15 rfl
theorem dX10_joinedOf_26 : decode cX10_joinedOf 26 = .ok (.aload_n 0, 1) := dd_get dm_X10_joinedOf_0 16 rfl
theorem dX10_joinedOf_27 : decode cX10_joinedOf 27 = .ok (.getfield 72, 3) := dd_get dm_X10_joinedOf_0 17 rfl
theorem dX10_joinedOf_30 : decode cX10_joinedOf 30 = .ok (.iload_n 1, 1) := dd_get dm_X10_joinedOf_0 18 rfl
theorem dX10_joinedOf_31 : decode cX10_joinedOf 31 = .ok (.iload_n 3, 1) := dd_get dm_X10_joinedOf_0 19 rfl
theorem dX10_joinedOf_32 : decode cX10_joinedOf 32 = .ok (.invokestatic 243, 3) := dd_get dm_X10_joinedOf_0 20 rfl
theorem dX10_joinedOf_35 : decode cX10_joinedOf 35 = .ok (.iaload, 1) := dd_get dm_X10_joinedOf_0 21 rfl
theorem dX10_joinedOf_36 : decode cX10_joinedOf 36 = .ok (.iconst 1, 1) := dd_get dm_X10_joinedOf_0 22 rfl
theorem dX10_joinedOf_37 : decode cX10_joinedOf 37 = .ok (.if_icmp .ne 7, 3) := dd_get dm_X10_joinedOf_0 23 rfl
theorem dX10_joinedOf_40 : decode cX10_joinedOf 40 = .ok (.iconst 1, 1) := dd_get dm_X10_joinedOf_0 24 rfl
theorem dX10_joinedOf_41 : decode cX10_joinedOf 41 = .ok (.goto 4, 3) := dd_get dm_X10_joinedOf_0 25 rfl
theorem dX10_joinedOf_44 : decode cX10_joinedOf 44 = .ok (.iconst 0, 1) := dd_get dm_X10_joinedOf_0 26 rfl
theorem dX10_joinedOf_45 : decode cX10_joinedOf 45 = .ok (.iadd, 1) := dd_get dm_X10_joinedOf_0 27 rfl
theorem dX10_joinedOf_46 : decode cX10_joinedOf 46 = .ok (.istore_n 2, 1) := dd_get dm_X10_joinedOf_0 28 rfl
theorem dX10_joinedOf_47 : decode cX10_joinedOf 47 = .ok (.iinc 3 1, 3) := dd_get dm_X10_joinedOf_0 29 rfl
theorem dX10_joinedOf_50 : decode cX10_joinedOf 50 = .ok (.goto (-46), 3) := dd_get dm_X10_joinedOf_0 30 rfl
theorem dX10_joinedOf_53 : decode cX10_joinedOf 53 = .ok (.iload_n 2, 1) := dd_get dm_X10_joinedOf_0 31 rfl
theorem dX10_joinedOf_54 : decode cX10_joinedOf 54 = .ok (.ireturn, 1) := dd_get dm_X10_joinedOf_0 32 rfl
theorem dm_X10_isFew_0 : (([(0, .aload_n 0, 1), (1, .iload_n 1, 1), (2, .invokevirtual 186, 3), (5, .ifCond .ne 5, 3), (8, .iconst 0, 1), (9, .ireturn, 1), (10, .iconst 0, 1), (11, .istore_n 2, 1), (12, .iconst 0, 1), (13, .istore_n 3, 1), (14, .iload_n 3, 1), (15, .aload_n 0, 1), (16, .getfield 107, 3), (19, .if_icmp .ge 44, 3), (22, .iload_n 2, 1), (23, .iload_n 3, 1), (24, .iload_n 1, 1), (25, .if_icmp .eq 29, 3), (28, .aload_n 0, 1), (29, .iload_n 3, 1), (30, .invokevirtual 186, 3), (33, .ifCond .eq 21, 3), (36, .aload_n 0, 1), (37, .getfield 72, 3), (40, .iload_n 1, 1), (41, .iload_n 3, 1), (42, .invokestatic 243, 3), (45, .iaload, 1), (46, .iconst 2, 1), (47, .if_icmp .eq 7, 3), (50, .iconst 1, 1), (51, .goto 4, 3), (54, .iconst 0, 1), (55, .iadd, 1), (56, .istore_n 2, 1), (57, .iinc 3 1, 3), (60, .goto (-46), 3), (63, .iload_n 2, 1), (64, .iconst 2, 1), (65, .if_icmp .ge 7, 3), (68, .iconst 1, 1), (69, .goto 4, 3), (72, .iconst 0, 1), (73, .ireturn, 1)] : List (Nat × Instr × Nat)).all fun q => decide (decode cX10_isFew q.1 = .ok (q.2.1, q.2.2))) = true := by decide +kernel
theorem dX10_isFew_0 : decode cX10_isFew 0 = .ok (.aload_n 0, 1) := dd_get dm_X10_isFew_0 0 rfl
theorem dX10_isFew_1 : decode cX10_isFew 1 = .ok (.iload_n 1, 1) := dd_get dm_X10_isFew_0 1 rfl
theorem dX10_isFew_2 : decode cX10_isFew 2 = .ok (.invokevirtual 186, 3) := dd_get dm_X10_isFew_0 2 rfl
theorem dX10_isFew_5 : decode cX10_isFew 5 = .ok (.ifCond .ne 5, 3) := dd_get dm_X10_isFew_0 3 rfl
theorem dX10_isFew_8 : decode cX10_isFew 8 = .ok (.iconst 0, 1) := dd_get dm_X10_isFew_0 4 rfl
theorem dX10_isFew_9 : decode cX10_isFew 9 = .ok (.ireturn, 1) := dd_get dm_X10_isFew_0 5 rfl
theorem dX10_isFew_10 : decode cX10_isFew 10 = .ok (.iconst 0, 1) := dd_get dm_X10_isFew_0 6 rfl
theorem dX10_isFew_11 : decode cX10_isFew 11 = .ok (.istore_n 2, 1) := dd_get dm_X10_isFew_0 7 rfl
theorem dX10_isFew_12 : decode cX10_isFew 12 = .ok (.iconst 0, 1) := dd_get dm_X10_isFew_0 8 rfl
theorem dX10_isFew_13 : decode cX10_isFew 13 = .ok (.istore_n 3, 1) := dd_get dm_X10_isFew_0 9 rfl
theorem dX10_isFew_14 : decode cX10_isFew 14 = .ok (.iload_n 3, 1) := dd_get dm_X10_isFew_0 10 rfl
theorem dX10_isFew_15 : decode cX10_isFew 15 = .ok (.aload_n 0, 1) := dd_get dm_X10_isFew_0 11 rfl
theorem dX10_isFew_16 : decode cX10_isFew 16 = .ok (.getfield 107, 3) := dd_get dm_X10_isFew_0 12 rfl
theorem dX10_isFew_19 : decode cX10_isFew 19 = .ok (.if_icmp .ge 44, 3) := dd_get dm_X10_isFew_0 13 rfl
theorem dX10_isFew_22 : decode cX10_isFew 22 = .ok (.iload_n 2, 1) := dd_get dm_X10_isFew_0 14 rfl
theorem dX10_isFew_23 : decode cX10_isFew 23 = .ok (.iload_n 3, 1) := dd_get dm_X10_isFew_0 15 rfl
theorem dX10_isFew_24 : decode cX10_isFew 24 = .ok (.iload_n 1, 1) := dd_get dm_X10_isFew_0 16 rfl
theorem dX10_isFew_25 : decode cX10_isFew 25 = .ok (.if_icmp .eq 29, 3) := dd_get dm_X10_isFew_0 17 rfl
theorem dX10_isFew_28 : decode cX10_isFew 28 = .ok (.aload_n 0, 1) := dd_get dm_X10_isFew_0 18 rfl
theorem dX10_isFew_29 : decode cX10_isFew 29 = .ok (.iload_n 3, 1) := dd_get dm_X10_isFew_0 19 rfl
theorem dX10_isFew_30 : decode cX10_isFew 30 = .ok (.invokevirtual 186, 3) := dd_get dm_X10_isFew_0 20 rfl
theorem dX10_isFew_33 : decode cX10_isFew 33 = .ok (.ifCond .eq 21, 3) := dd_get dm_X10_isFew_0 21 rfl
theorem dX10_isFew_36 : decode cX10_isFew 36 = .ok (.aload_n 0, 1) := dd_get dm_X10_isFew_0 22 rfl
theorem dX10_isFew_37 : decode cX10_isFew 37 = .ok (.getfield 72, 3) := dd_get dm_X10_isFew_0 23 rfl
theorem dX10_isFew_40 : decode cX10_isFew 40 = .ok (.iload_n 1, 1) := dd_get dm_X10_isFew_0 24 rfl
theorem dX10_isFew_41 : decode cX10_isFew 41 = .ok (.iload_n 3, 1) := dd_get dm_X10_isFew_0 25 rfl
theorem dX10_isFew_42 : decode cX10_isFew 42 = .ok (.invokestatic 243, 3) := dd_get dm_X10_isFew_0 26 rfl
theorem dX10_isFew_45 : decode cX10_isFew 45 = .ok (.iaload, 1) := dd_get dm_X10_isFew_0 27 rfl
theorem dX10_isFew_46 : decode cX10_isFew 46 = .ok (.iconst 2, 1) := dd_get dm_X10_isFew_0 28 rfl
theorem dX10_isFew_47 : decode cX10_isFew 47 = .ok (.if_icmp .eq 7, 3) := dd_get dm_X10_isFew_0 29 rfl
theorem dX10_isFew_50 : decode cX10_isFew 50 = .ok (.iconst 1, 1) := dd_get dm_X10_isFew_0 30 rfl
theorem dX10_isFew_51 : decode cX10_isFew 51 = .ok (.goto 4, 3) := dd_get dm_X10_isFew_0 31 rfl
theorem dX10_isFew_54 : decode cX10_isFew 54 = .ok (.iconst 0, 1) := dd_get dm_X10_isFew_0 32 rfl
theorem dX10_isFew_55 : decode cX10_isFew 55 = .ok (.iadd, 1) := dd_get dm_X10_isFew_0 33 rfl
theorem dX10_isFew_56 : decode cX10_isFew 56 = .ok (.istore_n 2, 1) := dd_get dm_X10_isFew_0 34 rfl
theorem dX10_isFew_57 : decode cX10_isFew 57 = .ok (.iinc 3 1, 3) := dd_get dm_X10_isFew_0 35 rfl
theorem dX10_isFew_60 : decode cX10_isFew 60 = .ok (.goto (-46), 3) := dd_get dm_X10_isFew_0 36 rfl
theorem dX10_isFew_63 : decode cX10_isFew 63 = .ok (.iload_n 2, 1) := dd_get dm_X10_isFew_0 37 rfl
theorem dX10_isFew_64 : decode cX10_isFew 64 = .ok (.iconst 2, 1) := dd_get dm_X10_isFew_0 38 rfl
theorem dX10_isFew_65 : decode cX10_isFew 65 = .ok (.if_icmp .ge 7, 3) := dd_get dm_X10_isFew_0 39 rfl
theorem dX10_isFew_68 : decode cX10_isFew 68 = .ok (.iconst 1, 1) := dd_get dm_X10_isFew_0 40 rfl
theorem dX10_isFew_69 : decode cX10_isFew 69 = .ok (.goto 4, 3) := dd_get dm_X10_isFew_0 41 rfl
theorem dX10_isFew_72 : decode cX10_isFew 72 = .ok (.iconst 0, 1) := dd_get dm_X10_isFew_0 42 rfl
theorem dX10_isFew_73 : decode cX10_isFew 73 = .ok (.ireturn, 1) := dd_get dm_X10_isFew_0 43 rfl
theorem dm_X10_isMany_0 : (([(0, .aload_n 0, 1), (1, .iload_n 1, 1), (2, .invokevirtual 186, 3), (5, .ifCond .eq 16, 3), (8, .aload_n 0, 1), (9, .iload_n 1, 1), (10, .invokevirtual 246, 3), (13, .iconst 2, 1), (14, .if_icmp .le 7, 3), (17, .iconst 1, 1), (18, .goto 4, 3), (21, .iconst 0, 1), (22, .ireturn, 1)] : List (Nat × Instr × Nat)).all fun q => decide (decode cX10_isMany q.1 = .ok (q.2.1, q.2.2))) = true := by decide +kernel
theorem dX10_isMany_0 : decode cX10_isMany 0 = .ok (.aload_n 0, 1) := dd_get dm_X10_isMany_0 0 rfl
theorem dX10_isMany_1 : decode cX10_isMany 1 = .ok (.iload_n 1, 1) := dd_get dm_X10_isMany_0 1 rfl
theorem dX10_isMany_2 : decode cX10_isMany 2 = .ok (.invokevirtual 186, 3) := dd_get dm_X10_isMany_0 2 rfl
theorem dX10_isMany_5 : decode cX10_isMany 5 = .ok (.ifCond .eq 16, 3) := dd_get dm_X10_isMany_0 3 rfl
theorem dX10_isMany_8 : decode cX10_isMany 8 = .ok (.aload_n 0, 1) := dd_get dm_X10_isMany_0 4 rfl
theorem dX10_isMany_9 : decode cX10_isMany 9 = .ok (.iload_n 1, 1) := dd_get dm_X10_isMany_0 5 rfl
theorem dX10_isMany_10 : decode cX10_isMany 10 = .ok (.invokevirtual 246, 3) := dd_get dm_X10_isMany_0 6 rfl
theorem dX10_isMany_13 : decode cX10_isMany 13 = .ok (.iconst 2, 1) := dd_get dm_X10_isMany_0 7 rfl
theorem dX10_isMany_14 : decode cX10_isMany 14 = .ok (.if_icmp .le 7, 3) := dd_get dm_X10_isMany_0 8 rfl
theorem dX10_isMany_17 : decode cX10_isMany 17 = .ok (.iconst 1, 1) := dd_get dm_X10_isMany_0 9 rfl
theorem dX10_isMany_18 : decode cX10_isMany 18 = .ok (.goto 4, 3) := dd_get dm_X10_isMany_0 10 rfl
theorem dX10_isMany_21 : decode cX10_isMany 21 = .ok (.iconst 0, 1) := dd_get dm_X10_isMany_0 11 rfl
theorem dX10_isMany_22 : decode cX10_isMany 22 = .ok (.ireturn, 1) := dd_get dm_X10_isMany_0 12 rfl
theorem dm_X10_isRing_0 : (([(0, .aload_n 0, 1), (1, .iload_n 1, 1), (2, .invokevirtual 186, 3), (5, .ifCond .ne 5, 3), (8, .iconst 0, 1), (9, .ireturn, 1), (10, .iconst 0, 1), (11, .istore_n 2, 1), (12, .iload_n 2, 1), (13, .bipush 12, 2), (15, .if_icmp .ge 25, 3), (18, .aload_n 0, 1), (19, .getfield 87, 3), (22, .iload_n 2, 1), (23, .iload_n 2, 1), (24, .iload_n 1, 1), (25, .if_icmp .ne 7, 3), (28, .iconst 1, 1), (29, .goto 4, 3), (32, .iconst 0, 1), (33, .bastore, 1), (34, .iinc 2 1, 3), (37, .goto (-25), 3), (40, .iconst 1, 1), (41, .istore_n 2, 1), (42, .iload_n 2, 1), (43, .ifCond .eq 84, 3), (46, .iconst 0, 1), (47, .istore_n 2, 1), (48, .iconst 0, 1), (49, .istore_n 3, 1), (50, .iload_n 3, 1), (51, .sipush 144, 3), (54, .if_icmp .ge 70, 3), (57, .aload_n 0, 1), (58, .iload_n 3, 1), (59, .invokevirtual 204, 3), (62, .ifCond .eq 56, 3), (65, .aload_n 0, 1), (66, .getfield 72, 3), (69, .iload_n 3, 1), (70, .iaload, 1), (71, .iconst 1, 1), (72, .if_icmp .ne 46, 3), (75, .aload_n 0, 1), (76, .getfield 87, 3), (79, .iload_n 3, 1), (80, .bipush 12, 2), (82, .idiv, 1), (83, .baload, 1), (84, .aload_n 0, 1), (85, .getfield 87, 3), (88, .iload_n 3, 1), (89, .bipush 12, 2), (91, .irem, 1), (92, .baload, 1), (93, .if_icmp .eq 25, 3), (96, .aload_n 0, 1), (97, .getfield 87, 3), (100, .iload_n 3, 1)] : List (Nat × Instr × Nat)).all fun q => decide (decode cX10_isRing q.1 = .ok (q.2.1, q.2.2))) = true := by decide +kernel
theorem dX10_isRing_0 : decode cX10_isRing 0 = .ok (.aload_n 0, 1) := dd_get dm_X10_isRing_0 0 rfl
theorem dX10_isRing_1 : decode cX10_isRing 1 = .ok (.iload_n 1, 1) := dd_get dm_X10_isRing_0 1 rfl
theorem dX10_isRing_2 : decode cX10_isRing 2 = .ok (.invokevirtual 186, 3) := dd_get dm_X10_isRing_0 2 rfl
theorem dX10_isRing_5 : decode cX10_isRing 5 = .ok (.ifCond .ne 5, 3) := dd_get dm_X10_isRing_0 3 rfl
theorem dX10_isRing_8 : decode cX10_isRing 8 = .ok (.iconst 0, 1) := dd_get dm_X10_isRing_0 4 rfl
theorem dX10_isRing_9 : decode cX10_isRing 9 = .ok (.ireturn, 1) := dd_get dm_X10_isRing_0 5 rfl
theorem dX10_isRing_10 : decode cX10_isRing 10 = .ok (.iconst 0, 1) := dd_get dm_X10_isRing_0 6 rfl
theorem dX10_isRing_11 : decode cX10_isRing 11 = .ok (.istore_n 2, 1) := dd_get dm_X10_isRing_0 7 rfl
theorem dX10_isRing_12 : decode cX10_isRing 12 = .ok (.iload_n 2, 1) := dd_get dm_X10_isRing_0 8 rfl
theorem dX10_isRing_13 : decode cX10_isRing 13 = .ok (.bipush 12, 2) := dd_get dm_X10_isRing_0 9 rfl
theorem dX10_isRing_15 : decode cX10_isRing 15 = .ok (.if_icmp .ge 25, 3) := dd_get dm_X10_isRing_0 10 rfl
theorem dX10_isRing_18 : decode cX10_isRing 18 = .ok (.aload_n 0, 1) := dd_get dm_X10_isRing_0 11 rfl
theorem dX10_isRing_19 : decode cX10_isRing 19 = .ok (.getfield 87, 3) := dd_get dm_X10_isRing_0 12 rfl
theorem dX10_isRing_22 : decode cX10_isRing 22 = .ok (.iload_n 2, 1) := dd_get dm_X10_isRing_0 13 rfl
theorem dX10_isRing_23 : decode cX10_isRing 23 = .ok (.iload_n 2, 1) := dd_get dm_X10_isRing_0 14 rfl
theorem dX10_isRing_24 : decode cX10_isRing 24 = .ok (.iload_n 1, 1) := dd_get dm_X10_isRing_0 15 rfl
theorem dX10_isRing_25 : decode cX10_isRing 25 = .ok (.if_icmp .ne 7, 3) := dd_get dm_X10_isRing_0 16 rfl
theorem dX10_isRing_28 : decode cX10_isRing 28 = .ok (.iconst 1, 1) := dd_get dm_X10_isRing_0 17 rfl
theorem dX10_isRing_29 : decode cX10_isRing 29 = .ok (.goto 4, 3) := dd_get dm_X10_isRing_0 18 rfl
theorem dX10_isRing_32 : decode cX10_isRing 32 = .ok (.iconst 0, 1) := dd_get dm_X10_isRing_0 19 rfl
theorem dX10_isRing_33 : decode cX10_isRing 33 = .ok (.bastore, 1) := dd_get dm_X10_isRing_0 20 rfl
theorem dX10_isRing_34 : decode cX10_isRing 34 = .ok (.iinc 2 1, 3) := dd_get dm_X10_isRing_0 21 rfl
theorem dX10_isRing_37 : decode cX10_isRing 37 = .ok (.goto (-25), 3) := dd_get dm_X10_isRing_0 22 rfl
theorem dX10_isRing_40 : decode cX10_isRing 40 = .ok (.iconst 1, 1) := dd_get dm_X10_isRing_0 23 rfl
theorem dX10_isRing_41 : decode cX10_isRing 41 = .ok (.istore_n 2, 1) := dd_get dm_X10_isRing_0 24 rfl
theorem dX10_isRing_42 : decode cX10_isRing 42 = .ok (.iload_n 2, 1) := dd_get dm_X10_isRing_0 25 rfl
theorem dX10_isRing_43 : decode cX10_isRing 43 = .ok (.ifCond .eq 84, 3) := dd_get dm_X10_isRing_0 26 rfl
theorem dX10_isRing_46 : decode cX10_isRing 46 = .ok (.iconst 0, 1) := dd_get dm_X10_isRing_0 27 rfl
theorem dX10_isRing_47 : decode cX10_isRing 47 = .ok (.istore_n 2, 1) := dd_get dm_X10_isRing_0 28 rfl
theorem dX10_isRing_48 : decode cX10_isRing 48 = .ok (.iconst 0, 1) := dd_get dm_X10_isRing_0 29 rfl
theorem dX10_isRing_49 : decode cX10_isRing 49 = .ok (.istore_n 3, 1) := dd_get dm_X10_isRing_0 30 rfl
theorem dX10_isRing_50 : decode cX10_isRing 50 = .ok (.iload_n 3, 1) := dd_get dm_X10_isRing_0 31 rfl
theorem dX10_isRing_51 : decode cX10_isRing 51 = .ok (.sipush 144, 3) := dd_get dm_X10_isRing_0 32 rfl
theorem dX10_isRing_54 : decode cX10_isRing 54 = .ok (.if_icmp .ge 70, 3) := dd_get dm_X10_isRing_0 33 rfl
theorem dX10_isRing_57 : decode cX10_isRing 57 = .ok (.aload_n 0, 1) := dd_get dm_X10_isRing_0 34 rfl
theorem dX10_isRing_58 : decode cX10_isRing 58 = .ok (.iload_n 3, 1) := dd_get dm_X10_isRing_0 35 rfl
theorem dX10_isRing_59 : decode cX10_isRing 59 = .ok (.invokevirtual 204, 3) := dd_get dm_X10_isRing_0 36 rfl
theorem dX10_isRing_62 : decode cX10_isRing 62 = .ok (.ifCond .eq 56, 3) := dd_get dm_X10_isRing_0 37 rfl
theorem dX10_isRing_65 : decode cX10_isRing 65 = .ok (.aload_n 0, 1) := dd_get dm_X10_isRing_0 38 rfl
theorem dX10_isRing_66 : decode cX10_isRing 66 = .ok (.getfield 72, 3) := dd_get dm_X10_isRing_0 39 rfl
theorem dX10_isRing_69 : decode cX10_isRing 69 = .ok (.iload_n 3, 1) := dd_get dm_X10_isRing_0 40 rfl
theorem dX10_isRing_70 : decode cX10_isRing 70 = .ok (.iaload, 1) := dd_get dm_X10_isRing_0 41 rfl
theorem dX10_isRing_71 : decode cX10_isRing 71 = .ok (.iconst 1, 1) := dd_get dm_X10_isRing_0 42 rfl
theorem dX10_isRing_72 : decode cX10_isRing 72 = .ok (.if_icmp .ne 46, 3) := dd_get dm_X10_isRing_0 43 rfl
theorem dX10_isRing_75 : decode cX10_isRing 75 = .ok (.aload_n 0, 1) := dd_get dm_X10_isRing_0 44 rfl
theorem dX10_isRing_76 : decode cX10_isRing 76 = .ok (.getfield 87, 3) := dd_get dm_X10_isRing_0 45 rfl
theorem dX10_isRing_79 : decode cX10_isRing 79 = .ok (.iload_n 3, 1) := dd_get dm_X10_isRing_0 46 rfl
theorem dX10_isRing_80 : decode cX10_isRing 80 = .ok (.bipush 12, 2) := dd_get dm_X10_isRing_0 47 rfl
theorem dX10_isRing_82 : decode cX10_isRing 82 = .ok (.idiv, 1) := dd_get dm_X10_isRing_0 48 rfl
theorem dX10_isRing_83 : decode cX10_isRing 83 = .ok (.baload, 1) := dd_get dm_X10_isRing_0 49 rfl
theorem dX10_isRing_84 : decode cX10_isRing 84 = .ok (.aload_n 0, 1) := dd_get dm_X10_isRing_0 50 rfl
theorem dX10_isRing_85 : decode cX10_isRing 85 = .ok (.getfield 87, 3) := dd_get dm_X10_isRing_0 51 rfl
theorem dX10_isRing_88 : decode cX10_isRing 88 = .ok (.iload_n 3, 1) := dd_get dm_X10_isRing_0 52 rfl
theorem dX10_isRing_89 : decode cX10_isRing 89 = .ok (.bipush 12, 2) := dd_get dm_X10_isRing_0 53 rfl
theorem dX10_isRing_91 : decode cX10_isRing 91 = .ok (.irem, 1) := dd_get dm_X10_isRing_0 54 rfl
theorem dX10_isRing_92 : decode cX10_isRing 92 = .ok (.baload, 1) := dd_get dm_X10_isRing_0 55 rfl
theorem dX10_isRing_93 : decode cX10_isRing 93 = .ok (.if_icmp .eq 25, 3) := dd_get dm_X10_isRing_0 56 rfl
theorem dX10_isRing_96 : decode cX10_isRing 96 = .ok (.aload_n 0, 1) := dd_get dm_X10_isRing_0 57 rfl
theorem dX10_isRing_97 : decode cX10_isRing 97 = .ok (.getfield 87, 3) := dd_get dm_X10_isRing_0 58 rfl
theorem dX10_isRing_100 : decode cX10_isRing 100 = .ok (.iload_n 3, 1) := dd_get dm_X10_isRing_0 59 rfl
theorem dm_X10_isRing_1 : (([(101, .bipush 12, 2), (103, .idiv, 1), (104, .iconst 1, 1), (105, .bastore, 1), (106, .aload_n 0, 1), (107, .getfield 87, 3), (110, .iload_n 3, 1), (111, .bipush 12, 2), (113, .irem, 1), (114, .iconst 1, 1), (115, .bastore, 1), (116, .iconst 1, 1), (117, .istore_n 2, 1), (118, .iinc 3 1, 3), (121, .goto (-71), 3), (124, .goto (-82), 3), (127, .iconst 1, 1), (128, .istore_n 3, 1), (129, .iconst 1, 1), (130, .istore 4, 2), (132, .iconst 0, 1), (133, .istore 5, 2), (135, .iload 5, 2), (137, .aload_n 0, 1), (138, .getfield 107, 3), (141, .if_icmp .ge 67, 3), (144, .iload_n 3, 1), (145, .aload_n 0, 1), (146, .getfield 45, 3), (149, .iload 5, 2), (151, .baload, 1), (152, .ifCond .ne 13, 3), (155, .aload_n 0, 1), (156, .getfield 87, 3), (159, .iload 5, 2), (161, .baload, 1), (162, .ifCond .eq 7, 3), (165, .iconst 1, 1), (166, .goto 4, 3), (169, .iconst 0, 1), (170, .iand, 1), (171, .istore_n 3, 1), (172, .iload 4, 2), (174, .aload_n 0, 1), (175, .getfield 87, 3), (178, .iload 5, 2), (180, .baload, 1), (181, .ifCond .eq 13, 3), (184, .aload_n 0, 1), (185, .iload 5, 2), (187, .invokevirtual 246, 3), (190, .iconst 2, 1), (191, .if_icmp .ne 7, 3), (194, .iconst 1, 1), (195, .goto 4, 3), (198, .iconst 0, 1), (199, .iand, 1), (200, .istore 4, 2), (202, .iinc 5 1, 3), (205, .goto (-70), 3)] : List (Nat × Instr × Nat)).all fun q => decide (decode cX10_isRing q.1 = .ok (q.2.1, q.2.2))) = true := by decide +kernel
theorem dX10_isRing_101 : decode cX10_isRing 101 = .ok (.bipush 12, 2) := dd_get dm_X10_isRing_1 0 rfl
theorem dX10_isRing_103 : decode cX10_isRing 103 = .ok (.idiv, 1) := dd_get dm_X10_isRing_1 1 rfl
theorem dX10_isRing_104 : decode cX10_isRing 104 = .ok (.iconst 1, 1) := dd_get dm_X10_isRing_1 2 rfl
theorem dX10_isRing_105 : decode cX10_isRing 105 = .ok (.bastore, 1) := dd_get dm_X10_isRing_1 3 rfl
theorem dX10_isRing_106 : decode cX10_isRing 106 = .ok (.aload_n 0, 1) := dd_get dm_X10_isRing_1 4 rfl
theorem dX10_isRing_107 : decode cX10_isRing 107 = .ok (.getfield 87, 3) := dd_get dm_X10_isRing_1 5 rfl
theorem dX10_isRing_110 : decode cX10_isRing 110 = .ok (.iload_n 3, 1) := dd_get dm_X10_isRing_1 6 rfl
theorem dX10_isRing_111 : decode cX10_isRing 111 = .ok (.bipush 12, 2) := dd_get dm_X10_isRing_1 7 rfl
theorem dX10_isRing_113 : decode cX10_isRing 113 = .ok (.irem, 1) := dd_get dm_X10_isRing_1 8 rfl
theorem dX10_isRing_114 : decode cX10_isRing 114 = .ok (.iconst 1, 1) := dd_get dm_X10_isRing_1 9 rfl
theorem dX10_isRing_115 : decode cX10_isRing 115 = .ok (.bastore, 1) := dd_get dm_X10_isRing_1 10 rfl
theorem dX10_isRing_116 : decode cX10_isRing 116 = .ok (.iconst 1, 1) := dd_get dm_X10_isRing_1 11 rfl
theorem dX10_isRing_117 : decode cX10_isRing 117 = .ok (.istore_n 2, 1) := dd_get dm_X10_isRing_1 12 rfl
theorem dX10_isRing_118 : decode cX10_isRing 118 = .ok (.iinc 3 1, 3) := dd_get dm_X10_isRing_1 13 rfl
theorem dX10_isRing_121 : decode cX10_isRing 121 = .ok (.goto (-71), 3) := dd_get dm_X10_isRing_1 14 rfl
theorem dX10_isRing_124 : decode cX10_isRing 124 = .ok (.goto (-82), 3) := dd_get dm_X10_isRing_1 15 rfl
theorem dX10_isRing_127 : decode cX10_isRing 127 = .ok (.iconst 1, 1) := dd_get dm_X10_isRing_1 16 rfl
theorem dX10_isRing_128 : decode cX10_isRing 128 = .ok (.istore_n 3, 1) := dd_get dm_X10_isRing_1 17 rfl
theorem dX10_isRing_129 : decode cX10_isRing 129 = .ok (.iconst 1, 1) := dd_get dm_X10_isRing_1 18 rfl
theorem dX10_isRing_130 : decode cX10_isRing 130 = .ok (.istore 4, 2) := dd_get dm_X10_isRing_1 19 rfl
theorem dX10_isRing_132 : decode cX10_isRing 132 = .ok (.iconst 0, 1) := dd_get dm_X10_isRing_1 20 rfl
theorem dX10_isRing_133 : decode cX10_isRing 133 = .ok (.istore 5, 2) := dd_get dm_X10_isRing_1 21 rfl
theorem dX10_isRing_135 : decode cX10_isRing 135 = .ok (.iload 5, 2) := dd_get dm_X10_isRing_1 22 rfl
theorem dX10_isRing_137 : decode cX10_isRing 137 = .ok (.aload_n 0, 1) := dd_get dm_X10_isRing_1 23 rfl
theorem dX10_isRing_138 : decode cX10_isRing 138 = .ok (.getfield 107, 3) := dd_get dm_X10_isRing_1 24 rfl
theorem dX10_isRing_141 : decode cX10_isRing 141 = .ok (.if_icmp .ge 67, 3) := dd_get dm_X10_isRing_1 25 rfl
theorem dX10_isRing_144 : decode cX10_isRing 144 = .ok (.iload_n 3, 1) := dd_get dm_X10_isRing_1 26 rfl
theorem dX10_isRing_145 : decode cX10_isRing 145 = .ok (.aload_n 0, 1) := dd_get dm_X10_isRing_1 27 rfl
theorem dX10_isRing_146 : decode cX10_isRing 146 = .ok (.getfield 45, 3) := dd_get dm_X10_isRing_1 28 rfl
theorem dX10_isRing_149 : decode cX10_isRing 149 = .ok (.iload 5, 2) := dd_get dm_X10_isRing_1 29 rfl
theorem dX10_isRing_151 : decode cX10_isRing 151 = .ok (.baload, 1) := dd_get dm_X10_isRing_1 30 rfl
theorem dX10_isRing_152 : decode cX10_isRing 152 = .ok (.ifCond .ne 13, 3) := dd_get dm_X10_isRing_1 31 rfl
theorem dX10_isRing_155 : decode cX10_isRing 155 = .ok (.aload_n 0, 1) := dd_get dm_X10_isRing_1 32 rfl
theorem dX10_isRing_156 : decode cX10_isRing 156 = .ok (.getfield 87, 3) := dd_get dm_X10_isRing_1 33 rfl
theorem dX10_isRing_159 : decode cX10_isRing 159 = .ok (.iload 5, 2) := dd_get dm_X10_isRing_1 34 rfl
theorem dX10_isRing_161 : decode cX10_isRing 161 = .ok (.baload, 1) := dd_get dm_X10_isRing_1 35 rfl
theorem dX10_isRing_162 : decode cX10_isRing 162 = .ok (.ifCond .eq 7, 3) := dd_get dm_X10_isRing_1 36 rfl
theorem dX10_isRing_165 : decode cX10_isRing 165 = .ok (.iconst 1, 1) := dd_get dm_X10_isRing_1 37 rfl
theorem dX10_isRing_166 : decode cX10_isRing 166 = .ok (.goto 4, 3) := dd_get dm_X10_isRing_1 38 rfl
theorem dX10_isRing_169 : decode cX10_isRing 169 = .ok (.iconst 0, 1) := dd_get dm_X10_isRing_1 39 rfl
theorem dX10_isRing_170 : decode cX10_isRing 170 = .ok (.iand, 1) := dd_get dm_X10_isRing_1 40 rfl
theorem dX10_isRing_171 : decode cX10_isRing 171 = .ok (.istore_n 3, 1) := dd_get dm_X10_isRing_1 41 rfl
theorem dX10_isRing_172 : decode cX10_isRing 172 = .ok (.iload 4, 2) := dd_get dm_X10_isRing_1 42 rfl
theorem dX10_isRing_174 : decode cX10_isRing 174 = .ok (.aload_n 0, 1) := dd_get dm_X10_isRing_1 43 rfl
theorem dX10_isRing_175 : decode cX10_isRing 175 = .ok (.getfield 87, 3) := dd_get dm_X10_isRing_1 44 rfl
theorem dX10_isRing_178 : decode cX10_isRing 178 = .ok (.iload 5, 2) := dd_get dm_X10_isRing_1 45 rfl
theorem dX10_isRing_180 : decode cX10_isRing 180 = .ok (.baload, 1) := dd_get dm_X10_isRing_1 46 rfl
theorem dX10_isRing_181 : decode cX10_isRing 181 = .ok (.ifCond .eq 13, 3) := dd_get dm_X10_isRing_1 47 rfl
theorem dX10_isRing_184 : decode cX10_isRing 184 = .ok (.aload_n 0, 1) := dd_get dm_X10_isRing_1 48 rfl
theorem dX10_isRing_185 : decode cX10_isRing 185 = .ok (.iload 5, 2) := dd_get dm_X10_isRing_1 49 rfl
theorem dX10_isRing_187 : decode cX10_isRing 187 = .ok (.invokevirtual 246, 3) := dd_get dm_X10_isRing_1 50 rfl
theorem dX10_isRing_190 : decode cX10_isRing 190 = .ok (.iconst 2, 1) := dd_get dm_X10_isRing_1 51 rfl
theorem dX10_isRing_191 : decode cX10_isRing 191 = .ok (.if_icmp .ne 7, 3) := dd_get dm_X10_isRing_1 52 rfl
theorem dX10_isRing_194 : decode cX10_isRing 194 = .ok (.iconst 1, 1) := dd_get dm_X10_isRing_1 53 rfl
theorem dX10_isRing_195 : decode cX10_isRing 195 = .ok (.goto 4, 3) := dd_get dm_X10_isRing_1 54 rfl
theorem dX10_isRing_198 : decode cX10_isRing 198 = .ok (.iconst 0, 1) := dd_get dm_X10_isRing_1 55 rfl
theorem dX10_isRing_199 : decode cX10_isRing 199 = .ok (.iand, 1) := dd_get dm_X10_isRing_1 56 rfl
theorem dX10_isRing_200 : decode cX10_isRing 200 = .ok (.istore 4, 2) := dd_get dm_X10_isRing_1 57 rfl
theorem dX10_isRing_202 : decode cX10_isRing 202 = .ok (.iinc 5 1, 3) := dd_get dm_X10_isRing_1 58 rfl
theorem dX10_isRing_205 : decode cX10_isRing 205 = .ok (.goto (-70), 3) := dd_get dm_X10_isRing_1 59 rfl
theorem dm_X10_isRing_2 : (([(208, .iload 4, 2), (210, .ifCond .eq 11, 3), (213, .iload_n 3, 1), (214, .ifCond .ne 7, 3), (217, .iconst 1, 1), (218, .goto 4, 3), (221, .iconst 0, 1), (222, .ireturn, 1)] : List (Nat × Instr × Nat)).all fun q => decide (decode cX10_isRing q.1 = .ok (q.2.1, q.2.2))) = true := by decide +kernel
theorem dX10_isRing_208 : decode cX10_isRing 208 = .ok (.iload 4, 2) := dd_get dm_X10_isRing_2 0 rfl
theorem dX10_isRing_210 : decode cX10_isRing 210 = .ok (.ifCond .eq 11, 3) := dd_get dm_X10_isRing_2 1 rfl
theorem dX10_isRing_213 : decode cX10_isRing 213 = .ok (.iload_n 3, 1) := dd_get dm_X10_isRing_2 2 rfl
theorem dX10_isRing_214 : decode cX10_isRing 214 = .ok (.ifCond .ne 7, 3) := dd_get dm_X10_isRing_2 3 rfl
theorem dX10_isRing_217 : decode cX10_isRing 217 = .ok (.iconst 1, 1) := dd_get dm_X10_isRing_2 4 rfl
theorem dX10_isRing_218 : decode cX10_isRing 218 = .ok (.goto 4, 3) := dd_get dm_X10_isRing_2 5 rfl
theorem dX10_isRing_221 : decode cX10_isRing 221 = .ok (.iconst 0, 1) := dd_get dm_X10_isRing_2 6 rfl
theorem dX10_isRing_222 : decode cX10_isRing 222 = .ok (.ireturn, 1) := dd_get dm_X10_isRing_2 7 rfl
theorem dm_X10_isTwins_0 : (([(0, .aload_n 0, 1), (1, .iload_n 1, 1), (2, .invokevirtual 186, 3), (5, .ifCond .eq 52, 3), (8, .aload_n 0, 1), (9, .iload_n 2, 1), (10, .invokevirtual 186, 3), (13, .ifCond .eq 44, 3), (16, .iload_n 1, 1), (17, .iload_n 2, 1), (18, .if_icmp .eq 39, 3), (21, .aload_n 0, 1), (22, .iload_n 1, 1), (23, .invokevirtual 137, 3), (26, .iload_n 2, 1), (27, .if_icmp .eq 12, 3), (30, .aload_n 0, 1), (31, .iload_n 2, 1), (32, .invokevirtual 137, 3), (35, .iload_n 1, 1), (36, .if_icmp .ne 21, 3), (39, .aload_n 0, 1), (40, .getfield 72, 3), (43, .iload_n 1, 1), (44, .iload_n 2, 1), (45, .invokestatic 243, 3), (48, .iaload, 1), (49, .iconst 2, 1), (50, .if_icmp .ne 7, 3), (53, .iconst 1, 1), (54, .goto 4, 3), (57, .iconst 0, 1), (58, .ireturn, 1)] : List (Nat × Instr × Nat)).all fun q => decide (decode cX10_isTwins q.1 = .ok (q.2.1, q.2.2))) = true := by decide +kernel
theorem dX10_isTwins_0 : decode cX10_isTwins 0 = .ok (.aload_n 0, 1) := dd_get dm_X10_isTwins_0 0 rfl
theorem dX10_isTwins_1 : decode cX10_isTwins 1 = .ok (.iload_n 1, 1) := dd_get dm_X10_isTwins_0 1 rfl
theorem dX10_isTwins_2 : decode cX10_isTwins 2 = .ok (.invokevirtual 186, 3) := dd_get dm_X10_isTwins_0 2 rfl
theorem dX10_isTwins_5 : decode cX10_isTwins 5 = .ok (.ifCond .eq 52, 3) := dd_get dm_X10_isTwins_0 3 rfl
theorem dX10_isTwins_8 : decode cX10_isTwins 8 = .ok (.aload_n 0, 1) := dd_get dm_X10_isTwins_0 4 rfl
theorem dX10_isTwins_9 : decode cX10_isTwins 9 = .ok (.iload_n 2, 1) := dd_get dm_X10_isTwins_0 5 rfl
theorem dX10_isTwins_10 : decode cX10_isTwins 10 = .ok (.invokevirtual 186, 3) := dd_get dm_X10_isTwins_0 6 rfl
theorem dX10_isTwins_13 : decode cX10_isTwins 13 = .ok (.ifCond .eq 44, 3) := dd_get dm_X10_isTwins_0 7 rfl
theorem dX10_isTwins_16 : decode cX10_isTwins 16 = .ok (.iload_n 1, 1) := dd_get dm_X10_isTwins_0 8 rfl
theorem dX10_isTwins_17 : decode cX10_isTwins 17 = .ok (.iload_n 2, 1) := dd_get dm_X10_isTwins_0 9 rfl
theorem dX10_isTwins_18 : decode cX10_isTwins 18 = .ok (.if_icmp .eq 39, 3) := dd_get dm_X10_isTwins_0 10 rfl
theorem dX10_isTwins_21 : decode cX10_isTwins 21 = .ok (.aload_n 0, 1) := dd_get dm_X10_isTwins_0 11 rfl
theorem dX10_isTwins_22 : decode cX10_isTwins 22 = .ok (.iload_n 1, 1) := dd_get dm_X10_isTwins_0 12 rfl
theorem dX10_isTwins_23 : decode cX10_isTwins 23 = .ok (.invokevirtual 137, 3) := dd_get dm_X10_isTwins_0 13 rfl
theorem dX10_isTwins_26 : decode cX10_isTwins 26 = .ok (.iload_n 2, 1) := dd_get dm_X10_isTwins_0 14 rfl
theorem dX10_isTwins_27 : decode cX10_isTwins 27 = .ok (.if_icmp .eq 12, 3) := dd_get dm_X10_isTwins_0 15 rfl
theorem dX10_isTwins_30 : decode cX10_isTwins 30 = .ok (.aload_n 0, 1) := dd_get dm_X10_isTwins_0 16 rfl
theorem dX10_isTwins_31 : decode cX10_isTwins 31 = .ok (.iload_n 2, 1) := dd_get dm_X10_isTwins_0 17 rfl
theorem dX10_isTwins_32 : decode cX10_isTwins 32 = .ok (.invokevirtual 137, 3) := dd_get dm_X10_isTwins_0 18 rfl
theorem dX10_isTwins_35 : decode cX10_isTwins 35 = .ok (.iload_n 1, 1) := dd_get dm_X10_isTwins_0 19 rfl
theorem dX10_isTwins_36 : decode cX10_isTwins 36 = .ok (.if_icmp .ne 21, 3) := dd_get dm_X10_isTwins_0 20 rfl
theorem dX10_isTwins_39 : decode cX10_isTwins 39 = .ok (.aload_n 0, 1) := dd_get dm_X10_isTwins_0 21 rfl
theorem dX10_isTwins_40 : decode cX10_isTwins 40 = .ok (.getfield 72, 3) := dd_get dm_X10_isTwins_0 22 rfl
theorem dX10_isTwins_43 : decode cX10_isTwins 43 = .ok (.iload_n 1, 1) := dd_get dm_X10_isTwins_0 23 rfl
theorem dX10_isTwins_44 : decode cX10_isTwins 44 = .ok (.iload_n 2, 1) := dd_get dm_X10_isTwins_0 24 rfl
theorem dX10_isTwins_45 : decode cX10_isTwins 45 = .ok (.invokestatic 243, 3) := dd_get dm_X10_isTwins_0 25 rfl
theorem dX10_isTwins_48 : decode cX10_isTwins 48 = .ok (.iaload, 1) := dd_get dm_X10_isTwins_0 26 rfl
theorem dX10_isTwins_49 : decode cX10_isTwins 49 = .ok (.iconst 2, 1) := dd_get dm_X10_isTwins_0 27 rfl
theorem dX10_isTwins_50 : decode cX10_isTwins 50 = .ok (.if_icmp .ne 7, 3) := dd_get dm_X10_isTwins_0 28 rfl
theorem dX10_isTwins_53 : decode cX10_isTwins 53 = .ok (.iconst 1, 1) := dd_get dm_X10_isTwins_0 29 rfl
theorem dX10_isTwins_54 : decode cX10_isTwins 54 = .ok (.goto 4, 3) := dd_get dm_X10_isTwins_0 30 rfl
theorem dX10_isTwins_57 : decode cX10_isTwins 57 = .ok (.iconst 0, 1) := dd_get dm_X10_isTwins_0 31 rfl
theorem dX10_isTwins_58 : decode cX10_isTwins 58 = .ok (.ireturn, 1) := dd_get dm_X10_isTwins_0 32 rfl
theorem dm_X10_isPart_0 : (([(0, .iload_n 1, 1), (1, .iload_n 2, 1), (2, .if_icmp .ge 36, 3), (5, .aload_n 0, 1), (6, .iload_n 1, 1), (7, .invokevirtual 186, 3), (10, .ifCond .eq 28, 3), (13, .aload_n 0, 1), (14, .iload_n 2, 1), (15, .invokevirtual 186, 3), (18, .ifCond .eq 20, 3), (21, .aload_n 0, 1), (22, .getfield 72, 3), (25, .iload_n 1, 1), (26, .iload_n 2, 1), (27, .invokestatic 243, 3), (30, .iaload, 1), (31, .ifCond .ne 7, 3), (34, .iconst 1, 1), (35, .goto 4, 3), (38, .iconst 0, 1), (39, .ireturn, 1)] : List (Nat × Instr × Nat)).all fun q => decide (decode cX10_isPart q.1 = .ok (q.2.1, q.2.2))) = true := by decide +kernel
theorem dX10_isPart_0 : decode cX10_isPart 0 = .ok (.iload_n 1, 1) := dd_get dm_X10_isPart_0 0 rfl
theorem dX10_isPart_1 : decode cX10_isPart 1 = .ok (.iload_n 2, 1) := dd_get dm_X10_isPart_0 1 rfl
theorem dX10_isPart_2 : decode cX10_isPart 2 = .ok (.if_icmp .ge 36, 3) := dd_get dm_X10_isPart_0 2 rfl
theorem dX10_isPart_5 : decode cX10_isPart 5 = .ok (.aload_n 0, 1) := dd_get dm_X10_isPart_0 3 rfl
theorem dX10_isPart_6 : decode cX10_isPart 6 = .ok (.iload_n 1, 1) := dd_get dm_X10_isPart_0 4 rfl
theorem dX10_isPart_7 : decode cX10_isPart 7 = .ok (.invokevirtual 186, 3) := dd_get dm_X10_isPart_0 5 rfl
theorem dX10_isPart_10 : decode cX10_isPart 10 = .ok (.ifCond .eq 28, 3) := dd_get dm_X10_isPart_0 6 rfl
theorem dX10_isPart_13 : decode cX10_isPart 13 = .ok (.aload_n 0, 1) := dd_get dm_X10_isPart_0 7 rfl
theorem dX10_isPart_14 : decode cX10_isPart 14 = .ok (.iload_n 2, 1) := dd_get dm_X10_isPart_0 8 rfl
theorem dX10_isPart_15 : decode cX10_isPart 15 = .ok (.invokevirtual 186, 3) := dd_get dm_X10_isPart_0 9 rfl
theorem dX10_isPart_18 : decode cX10_isPart 18 = .ok (.ifCond .eq 20, 3) := dd_get dm_X10_isPart_0 10 rfl
theorem dX10_isPart_21 : decode cX10_isPart 21 = .ok (.aload_n 0, 1) := dd_get dm_X10_isPart_0 11 rfl
theorem dX10_isPart_22 : decode cX10_isPart 22 = .ok (.getfield 72, 3) := dd_get dm_X10_isPart_0 12 rfl
theorem dX10_isPart_25 : decode cX10_isPart 25 = .ok (.iload_n 1, 1) := dd_get dm_X10_isPart_0 13 rfl
theorem dX10_isPart_26 : decode cX10_isPart 26 = .ok (.iload_n 2, 1) := dd_get dm_X10_isPart_0 14 rfl
theorem dX10_isPart_27 : decode cX10_isPart 27 = .ok (.invokestatic 243, 3) := dd_get dm_X10_isPart_0 15 rfl
theorem dX10_isPart_30 : decode cX10_isPart 30 = .ok (.iaload, 1) := dd_get dm_X10_isPart_0 16 rfl
theorem dX10_isPart_31 : decode cX10_isPart 31 = .ok (.ifCond .ne 7, 3) := dd_get dm_X10_isPart_0 17 rfl
theorem dX10_isPart_34 : decode cX10_isPart 34 = .ok (.iconst 1, 1) := dd_get dm_X10_isPart_0 18 rfl
theorem dX10_isPart_35 : decode cX10_isPart 35 = .ok (.goto 4, 3) := dd_get dm_X10_isPart_0 19 rfl
theorem dX10_isPart_38 : decode cX10_isPart 38 = .ok (.iconst 0, 1) := dd_get dm_X10_isPart_0 20 rfl
theorem dX10_isPart_39 : decode cX10_isPart 39 = .ok (.ireturn, 1) := dd_get dm_X10_isPart_0 21 rfl
theorem dm_X10_stands_0 : (([(0, .iload_n 1, 1), (1, .tableswitch 77 1 5 #[35, 42, 59, 65, 71], 35), (36, .aload_n 0, 1), (37, .iload_n 2, 1), (38, .iload_n 3, 1), (39, .invokevirtual 249, 3), (42, .ireturn, 1), (43, .aload_n 0, 1), (44, .invokevirtual 234, 3), (47, .iload 4, 2), (49, .i2l, 1), (50, .lcmp, 1), (51, .ifCond .lt 7, 3), (54, .iconst 1, 1), (55, .goto 4, 3), (58, .iconst 0, 1), (59, .ireturn, 1), (60, .aload_n 0, 1), (61, .iload_n 2, 1), (62, .invokevirtual 252, 3), (65, .ireturn, 1), (66, .aload_n 0, 1), (67, .iload_n 2, 1), (68, .invokevirtual 255, 3), (71, .ireturn, 1), (72, .aload_n 0, 1), (73, .iload_n 2, 1), (74, .invokevirtual 258, 3), (77, .ireturn, 1), (78, .aload_n 0, 1), (79, .iload_n 2, 1), (80, .iload_n 3, 1), (81, .invokevirtual 261, 3), (84, .ireturn, 1)] : List (Nat × Instr × Nat)).all fun q => decide (decode cX10_stands q.1 = .ok (q.2.1, q.2.2))) = true := by decide +kernel
theorem dX10_stands_0 : decode cX10_stands 0 = .ok (.iload_n 1, 1) := dd_get dm_X10_stands_0 0 rfl
theorem dX10_stands_1 : decode cX10_stands 1 = .ok (.tableswitch 77 1 5 #[35, 42, 59, 65, 71], 35) := dd_get dm_X10_stands_0 1 rfl
theorem dX10_stands_36 : decode cX10_stands 36 = .ok (.aload_n 0, 1) := dd_get dm_X10_stands_0 2 rfl
theorem dX10_stands_37 : decode cX10_stands 37 = .ok (.iload_n 2, 1) := dd_get dm_X10_stands_0 3 rfl
theorem dX10_stands_38 : decode cX10_stands 38 = .ok (.iload_n 3, 1) := dd_get dm_X10_stands_0 4 rfl
theorem dX10_stands_39 : decode cX10_stands 39 = .ok (.invokevirtual 249, 3) := dd_get dm_X10_stands_0 5 rfl
theorem dX10_stands_42 : decode cX10_stands 42 = .ok (.ireturn, 1) := dd_get dm_X10_stands_0 6 rfl
theorem dX10_stands_43 : decode cX10_stands 43 = .ok (.aload_n 0, 1) := dd_get dm_X10_stands_0 7 rfl
theorem dX10_stands_44 : decode cX10_stands 44 = .ok (.invokevirtual 234, 3) := dd_get dm_X10_stands_0 8 rfl
theorem dX10_stands_47 : decode cX10_stands 47 = .ok (.iload 4, 2) := dd_get dm_X10_stands_0 9 rfl
theorem dX10_stands_49 : decode cX10_stands 49 = .ok (.i2l, 1) := dd_get dm_X10_stands_0 10 rfl
theorem dX10_stands_50 : decode cX10_stands 50 = .ok (.lcmp, 1) := dd_get dm_X10_stands_0 11 rfl
theorem dX10_stands_51 : decode cX10_stands 51 = .ok (.ifCond .lt 7, 3) := dd_get dm_X10_stands_0 12 rfl
theorem dX10_stands_54 : decode cX10_stands 54 = .ok (.iconst 1, 1) := dd_get dm_X10_stands_0 13 rfl
theorem dX10_stands_55 : decode cX10_stands 55 = .ok (.goto 4, 3) := dd_get dm_X10_stands_0 14 rfl
theorem dX10_stands_58 : decode cX10_stands 58 = .ok (.iconst 0, 1) := dd_get dm_X10_stands_0 15 rfl
theorem dX10_stands_59 : decode cX10_stands 59 = .ok (.ireturn, 1) := dd_get dm_X10_stands_0 16 rfl
theorem dX10_stands_60 : decode cX10_stands 60 = .ok (.aload_n 0, 1) := dd_get dm_X10_stands_0 17 rfl
theorem dX10_stands_61 : decode cX10_stands 61 = .ok (.iload_n 2, 1) := dd_get dm_X10_stands_0 18 rfl
theorem dX10_stands_62 : decode cX10_stands 62 = .ok (.invokevirtual 252, 3) := dd_get dm_X10_stands_0 19 rfl
theorem dX10_stands_65 : decode cX10_stands 65 = .ok (.ireturn, 1) := dd_get dm_X10_stands_0 20 rfl
theorem dX10_stands_66 : decode cX10_stands 66 = .ok (.aload_n 0, 1) := dd_get dm_X10_stands_0 21 rfl
theorem dX10_stands_67 : decode cX10_stands 67 = .ok (.iload_n 2, 1) := dd_get dm_X10_stands_0 22 rfl
theorem dX10_stands_68 : decode cX10_stands 68 = .ok (.invokevirtual 255, 3) := dd_get dm_X10_stands_0 23 rfl
theorem dX10_stands_71 : decode cX10_stands 71 = .ok (.ireturn, 1) := dd_get dm_X10_stands_0 24 rfl
theorem dX10_stands_72 : decode cX10_stands 72 = .ok (.aload_n 0, 1) := dd_get dm_X10_stands_0 25 rfl
theorem dX10_stands_73 : decode cX10_stands 73 = .ok (.iload_n 2, 1) := dd_get dm_X10_stands_0 26 rfl
theorem dX10_stands_74 : decode cX10_stands 74 = .ok (.invokevirtual 258, 3) := dd_get dm_X10_stands_0 27 rfl
theorem dX10_stands_77 : decode cX10_stands 77 = .ok (.ireturn, 1) := dd_get dm_X10_stands_0 28 rfl
theorem dX10_stands_78 : decode cX10_stands 78 = .ok (.aload_n 0, 1) := dd_get dm_X10_stands_0 29 rfl
theorem dX10_stands_79 : decode cX10_stands 79 = .ok (.iload_n 2, 1) := dd_get dm_X10_stands_0 30 rfl
theorem dX10_stands_80 : decode cX10_stands 80 = .ok (.iload_n 3, 1) := dd_get dm_X10_stands_0 31 rfl
theorem dX10_stands_81 : decode cX10_stands 81 = .ok (.invokevirtual 261, 3) := dd_get dm_X10_stands_0 32 rfl
theorem dX10_stands_84 : decode cX10_stands 84 = .ok (.ireturn, 1) := dd_get dm_X10_stands_0 33 rfl
theorem dm_X10_part_0 : (([(0, .aload_n 0, 1), (1, .getfield 72, 3), (4, .iload_n 1, 1), (5, .iload_n 2, 1), (6, .invokestatic 243, 3), (9, .iconst 2, 1), (10, .iastore, 1), (11, .aload_n 0, 1), (12, .invokevirtual 264, 3), (15, .aload_n 0, 1), (16, .getfield 72, 3), (19, .iload_n 1, 1), (20, .iload_n 2, 1), (21, .invokestatic 243, 3), (24, .iconst 1, 1), (25, .iastore, 1), (26, .aload_n 0, 1), (27, .invokevirtual 264, 3), (30, .return_, 1)] : List (Nat × Instr × Nat)).all fun q => decide (decode cX10_part q.1 = .ok (q.2.1, q.2.2))) = true := by decide +kernel
theorem dX10_part_0 : decode cX10_part 0 = .ok (.aload_n 0, 1) := dd_get dm_X10_part_0 0 rfl
theorem dX10_part_1 : decode cX10_part 1 = .ok (.getfield 72, 3) := dd_get dm_X10_part_0 1 rfl
theorem dX10_part_4 : decode cX10_part 4 = .ok (.iload_n 1, 1) := dd_get dm_X10_part_0 2 rfl
theorem dX10_part_5 : decode cX10_part 5 = .ok (.iload_n 2, 1) := dd_get dm_X10_part_0 3 rfl
theorem dX10_part_6 : decode cX10_part 6 = .ok (.invokestatic 243, 3) := dd_get dm_X10_part_0 4 rfl
theorem dX10_part_9 : decode cX10_part 9 = .ok (.iconst 2, 1) := dd_get dm_X10_part_0 5 rfl
theorem dX10_part_10 : decode cX10_part 10 = .ok (.iastore, 1) := dd_get dm_X10_part_0 6 rfl
theorem dX10_part_11 : decode cX10_part 11 = .ok (.aload_n 0, 1) := dd_get dm_X10_part_0 7 rfl
theorem dX10_part_12 : decode cX10_part 12 = .ok (.invokevirtual 264, 3) := dd_get dm_X10_part_0 8 rfl
theorem dX10_part_15 : decode cX10_part 15 = .ok (.aload_n 0, 1) := dd_get dm_X10_part_0 9 rfl
theorem dX10_part_16 : decode cX10_part 16 = .ok (.getfield 72, 3) := dd_get dm_X10_part_0 10 rfl
theorem dX10_part_19 : decode cX10_part 19 = .ok (.iload_n 1, 1) := dd_get dm_X10_part_0 11 rfl
theorem dX10_part_20 : decode cX10_part 20 = .ok (.iload_n 2, 1) := dd_get dm_X10_part_0 12 rfl
theorem dX10_part_21 : decode cX10_part 21 = .ok (.invokestatic 243, 3) := dd_get dm_X10_part_0 13 rfl
theorem dX10_part_24 : decode cX10_part 24 = .ok (.iconst 1, 1) := dd_get dm_X10_part_0 14 rfl
theorem dX10_part_25 : decode cX10_part 25 = .ok (.iastore, 1) := dd_get dm_X10_part_0 15 rfl
theorem dX10_part_26 : decode cX10_part 26 = .ok (.aload_n 0, 1) := dd_get dm_X10_part_0 16 rfl
theorem dX10_part_27 : decode cX10_part 27 = .ok (.invokevirtual 264, 3) := dd_get dm_X10_part_0 17 rfl
theorem dX10_part_30 : decode cX10_part 30 = .ok (.return_, 1) := dd_get dm_X10_part_0 18 rfl
theorem dm_X10_write__0 : (([(0, .aload_n 0, 1), (1, .getfield 267, 3), (4, .sipush 400, 3), (7, .if_icmp .ne 5, 3), (10, .iconst 0, 1), (11, .ireturn, 1), (12, .aload_n 0, 1), (13, .getfield 90, 3), (16, .aload_n 0, 1), (17, .getfield 267, 3), (20, .iload_n 1, 1), (21, .iastore, 1), (22, .aload_n 0, 1), (23, .getfield 93, 3), (26, .aload_n 0, 1), (27, .getfield 267, 3), (30, .iload_n 2, 1), (31, .iastore, 1), (32, .aload_n 0, 1), (33, .getfield 96, 3), (36, .aload_n 0, 1), (37, .getfield 267, 3), (40, .iload_n 3, 1), (41, .iastore, 1), (42, .aload_n 0, 1), (43, .dup, 1), (44, .getfield 267, 3), (47, .iconst 1, 1), (48, .iadd, 1), (49, .putfield 267, 3), (52, .iconst 1, 1), (53, .ireturn, 1)] : List (Nat × Instr × Nat)).all fun q => decide (decode cX10_write_ q.1 = .ok (q.2.1, q.2.2))) = true := by decide +kernel
theorem dX10_write__0 : decode cX10_write_ 0 = .ok (.aload_n 0, 1) := dd_get dm_X10_write__0 0 rfl
theorem dX10_write__1 : decode cX10_write_ 1 = .ok (.getfield 267, 3) := dd_get dm_X10_write__0 1 rfl
theorem dX10_write__4 : decode cX10_write_ 4 = .ok (.sipush 400, 3) := dd_get dm_X10_write__0 2 rfl
theorem dX10_write__7 : decode cX10_write_ 7 = .ok (.if_icmp .ne 5, 3) := dd_get dm_X10_write__0 3 rfl
theorem dX10_write__10 : decode cX10_write_ 10 = .ok (.iconst 0, 1) := dd_get dm_X10_write__0 4 rfl
theorem dX10_write__11 : decode cX10_write_ 11 = .ok (.ireturn, 1) := dd_get dm_X10_write__0 5 rfl
theorem dX10_write__12 : decode cX10_write_ 12 = .ok (.aload_n 0, 1) := dd_get dm_X10_write__0 6 rfl
theorem dX10_write__13 : decode cX10_write_ 13 = .ok (.getfield 90, 3) := dd_get dm_X10_write__0 7 rfl
theorem dX10_write__16 : decode cX10_write_ 16 = .ok (.aload_n 0, 1) := dd_get dm_X10_write__0 8 rfl
theorem dX10_write__17 : decode cX10_write_ 17 = .ok (.getfield 267, 3) := dd_get dm_X10_write__0 9 rfl
theorem dX10_write__20 : decode cX10_write_ 20 = .ok (.iload_n 1, 1) := dd_get dm_X10_write__0 10 rfl
theorem dX10_write__21 : decode cX10_write_ 21 = .ok (.iastore, 1) := dd_get dm_X10_write__0 11 rfl
theorem dX10_write__22 : decode cX10_write_ 22 = .ok (.aload_n 0, 1) := dd_get dm_X10_write__0 12 rfl
theorem dX10_write__23 : decode cX10_write_ 23 = .ok (.getfield 93, 3) := dd_get dm_X10_write__0 13 rfl
theorem dX10_write__26 : decode cX10_write_ 26 = .ok (.aload_n 0, 1) := dd_get dm_X10_write__0 14 rfl
theorem dX10_write__27 : decode cX10_write_ 27 = .ok (.getfield 267, 3) := dd_get dm_X10_write__0 15 rfl
theorem dX10_write__30 : decode cX10_write_ 30 = .ok (.iload_n 2, 1) := dd_get dm_X10_write__0 16 rfl
theorem dX10_write__31 : decode cX10_write_ 31 = .ok (.iastore, 1) := dd_get dm_X10_write__0 17 rfl
theorem dX10_write__32 : decode cX10_write_ 32 = .ok (.aload_n 0, 1) := dd_get dm_X10_write__0 18 rfl
theorem dX10_write__33 : decode cX10_write_ 33 = .ok (.getfield 96, 3) := dd_get dm_X10_write__0 19 rfl
theorem dX10_write__36 : decode cX10_write_ 36 = .ok (.aload_n 0, 1) := dd_get dm_X10_write__0 20 rfl
theorem dX10_write__37 : decode cX10_write_ 37 = .ok (.getfield 267, 3) := dd_get dm_X10_write__0 21 rfl
theorem dX10_write__40 : decode cX10_write_ 40 = .ok (.iload_n 3, 1) := dd_get dm_X10_write__0 22 rfl
theorem dX10_write__41 : decode cX10_write_ 41 = .ok (.iastore, 1) := dd_get dm_X10_write__0 23 rfl
theorem dX10_write__42 : decode cX10_write_ 42 = .ok (.aload_n 0, 1) := dd_get dm_X10_write__0 24 rfl
theorem dX10_write__43 : decode cX10_write_ 43 = .ok (.dup, 1) := dd_get dm_X10_write__0 25 rfl
theorem dX10_write__44 : decode cX10_write_ 44 = .ok (.getfield 267, 3) := dd_get dm_X10_write__0 26 rfl
theorem dX10_write__47 : decode cX10_write_ 47 = .ok (.iconst 1, 1) := dd_get dm_X10_write__0 27 rfl
theorem dX10_write__48 : decode cX10_write_ 48 = .ok (.iadd, 1) := dd_get dm_X10_write__0 28 rfl
theorem dX10_write__49 : decode cX10_write_ 49 = .ok (.putfield 267, 3) := dd_get dm_X10_write__0 29 rfl
theorem dX10_write__52 : decode cX10_write_ 52 = .ok (.iconst 1, 1) := dd_get dm_X10_write__0 30 rfl
theorem dX10_write__53 : decode cX10_write_ 53 = .ok (.ireturn, 1) := dd_get dm_X10_write__0 31 rfl
theorem dm_X10_ending_0 : (([(0, .iconst 0, 1), (1, .istore_n 2, 1), (2, .iload_n 2, 1), (3, .sipush 144, 3), (6, .if_icmp .ge 30, 3), (9, .aload_n 0, 1), (10, .iload_n 2, 1), (11, .bipush 12, 2), (13, .idiv, 1), (14, .iload_n 2, 1), (15, .bipush 12, 2), (17, .irem, 1), (18, .invokevirtual 261, 3), (21, .ifCond .eq 9, 3), (24, .sipush 6000, 3), (27, .iload_n 2, 1), (28, .iadd, 1), (29, .ireturn, 1), (30, .iinc 2 1, 3), (33, .goto (-31), 3), (36, .iconst 3, 1), (37, .istore_n 2, 1), (38, .iload_n 2, 1), (39, .iconst 5, 1), (40, .if_icmp .gt 47, 3), (43, .iconst 0, 1), (44, .istore_n 3, 1), (45, .iload_n 3, 1), (46, .aload_n 0, 1), (47, .getfield 107, 3), (50, .if_icmp .ge 31, 3), (53, .aload_n 0, 1), (54, .iload_n 2, 1), (55, .iload_n 3, 1), (56, .iconst 0, 1), (57, .iload_n 1, 1), (58, .invokevirtual 270, 3), (61, .ifCond .eq 14, 3), (64, .sipush 1000, 3), (67, .iload_n 2, 1), (68, .imul, 1), (69, .bipush 12, 2), (71, .iload_n 3, 1), (72, .imul, 1), (73, .iadd, 1), (74, .ireturn, 1), (75, .iinc 3 1, 3), (78, .goto (-33), 3), (81, .iinc 2 1, 3), (84, .goto (-46), 3), (87, .aload_n 0, 1), (88, .invokevirtual 234, 3), (91, .iload_n 1, 1), (92, .i2l, 1), (93, .lcmp, 1), (94, .ifCond .lt 9, 3), (97, .sipush 2000, 3), (100, .goto 4, 3), (103, .iconst 0, 1), (104, .ireturn, 1)] : List (Nat × Instr × Nat)).all fun q => decide (decode cX10_ending q.1 = .ok (q.2.1, q.2.2))) = true := by decide +kernel
theorem dX10_ending_0 : decode cX10_ending 0 = .ok (.iconst 0, 1) := dd_get dm_X10_ending_0 0 rfl
theorem dX10_ending_1 : decode cX10_ending 1 = .ok (.istore_n 2, 1) := dd_get dm_X10_ending_0 1 rfl
theorem dX10_ending_2 : decode cX10_ending 2 = .ok (.iload_n 2, 1) := dd_get dm_X10_ending_0 2 rfl
theorem dX10_ending_3 : decode cX10_ending 3 = .ok (.sipush 144, 3) := dd_get dm_X10_ending_0 3 rfl
theorem dX10_ending_6 : decode cX10_ending 6 = .ok (.if_icmp .ge 30, 3) := dd_get dm_X10_ending_0 4 rfl
theorem dX10_ending_9 : decode cX10_ending 9 = .ok (.aload_n 0, 1) := dd_get dm_X10_ending_0 5 rfl
theorem dX10_ending_10 : decode cX10_ending 10 = .ok (.iload_n 2, 1) := dd_get dm_X10_ending_0 6 rfl
theorem dX10_ending_11 : decode cX10_ending 11 = .ok (.bipush 12, 2) := dd_get dm_X10_ending_0 7 rfl
theorem dX10_ending_13 : decode cX10_ending 13 = .ok (.idiv, 1) := dd_get dm_X10_ending_0 8 rfl
theorem dX10_ending_14 : decode cX10_ending 14 = .ok (.iload_n 2, 1) := dd_get dm_X10_ending_0 9 rfl
theorem dX10_ending_15 : decode cX10_ending 15 = .ok (.bipush 12, 2) := dd_get dm_X10_ending_0 10 rfl
theorem dX10_ending_17 : decode cX10_ending 17 = .ok (.irem, 1) := dd_get dm_X10_ending_0 11 rfl
theorem dX10_ending_18 : decode cX10_ending 18 = .ok (.invokevirtual 261, 3) := dd_get dm_X10_ending_0 12 rfl
theorem dX10_ending_21 : decode cX10_ending 21 = .ok (.ifCond .eq 9, 3) := dd_get dm_X10_ending_0 13 rfl
theorem dX10_ending_24 : decode cX10_ending 24 = .ok (.sipush 6000, 3) := dd_get dm_X10_ending_0 14 rfl
theorem dX10_ending_27 : decode cX10_ending 27 = .ok (.iload_n 2, 1) := dd_get dm_X10_ending_0 15 rfl
theorem dX10_ending_28 : decode cX10_ending 28 = .ok (.iadd, 1) := dd_get dm_X10_ending_0 16 rfl
theorem dX10_ending_29 : decode cX10_ending 29 = .ok (.ireturn, 1) := dd_get dm_X10_ending_0 17 rfl
theorem dX10_ending_30 : decode cX10_ending 30 = .ok (.iinc 2 1, 3) := dd_get dm_X10_ending_0 18 rfl
theorem dX10_ending_33 : decode cX10_ending 33 = .ok (.goto (-31), 3) := dd_get dm_X10_ending_0 19 rfl
theorem dX10_ending_36 : decode cX10_ending 36 = .ok (.iconst 3, 1) := dd_get dm_X10_ending_0 20 rfl
theorem dX10_ending_37 : decode cX10_ending 37 = .ok (.istore_n 2, 1) := dd_get dm_X10_ending_0 21 rfl
theorem dX10_ending_38 : decode cX10_ending 38 = .ok (.iload_n 2, 1) := dd_get dm_X10_ending_0 22 rfl
theorem dX10_ending_39 : decode cX10_ending 39 = .ok (.iconst 5, 1) := dd_get dm_X10_ending_0 23 rfl
theorem dX10_ending_40 : decode cX10_ending 40 = .ok (.if_icmp .gt 47, 3) := dd_get dm_X10_ending_0 24 rfl
theorem dX10_ending_43 : decode cX10_ending 43 = .ok (.iconst 0, 1) := dd_get dm_X10_ending_0 25 rfl
theorem dX10_ending_44 : decode cX10_ending 44 = .ok (.istore_n 3, 1) := dd_get dm_X10_ending_0 26 rfl
theorem dX10_ending_45 : decode cX10_ending 45 = .ok (.iload_n 3, 1) := dd_get dm_X10_ending_0 27 rfl
theorem dX10_ending_46 : decode cX10_ending 46 = .ok (.aload_n 0, 1) := dd_get dm_X10_ending_0 28 rfl
theorem dX10_ending_47 : decode cX10_ending 47 = .ok (.getfield 107, 3) := dd_get dm_X10_ending_0 29 rfl
theorem dX10_ending_50 : decode cX10_ending 50 = .ok (.if_icmp .ge 31, 3) := dd_get dm_X10_ending_0 30 rfl
theorem dX10_ending_53 : decode cX10_ending 53 = .ok (.aload_n 0, 1) := dd_get dm_X10_ending_0 31 rfl
theorem dX10_ending_54 : decode cX10_ending 54 = .ok (.iload_n 2, 1) := dd_get dm_X10_ending_0 32 rfl
theorem dX10_ending_55 : decode cX10_ending 55 = .ok (.iload_n 3, 1) := dd_get dm_X10_ending_0 33 rfl
theorem dX10_ending_56 : decode cX10_ending 56 = .ok (.iconst 0, 1) := dd_get dm_X10_ending_0 34 rfl
theorem dX10_ending_57 : decode cX10_ending 57 = .ok (.iload_n 1, 1) := dd_get dm_X10_ending_0 35 rfl
theorem dX10_ending_58 : decode cX10_ending 58 = .ok (.invokevirtual 270, 3) := dd_get dm_X10_ending_0 36 rfl
theorem dX10_ending_61 : decode cX10_ending 61 = .ok (.ifCond .eq 14, 3) := dd_get dm_X10_ending_0 37 rfl
theorem dX10_ending_64 : decode cX10_ending 64 = .ok (.sipush 1000, 3) := dd_get dm_X10_ending_0 38 rfl
theorem dX10_ending_67 : decode cX10_ending 67 = .ok (.iload_n 2, 1) := dd_get dm_X10_ending_0 39 rfl
theorem dX10_ending_68 : decode cX10_ending 68 = .ok (.imul, 1) := dd_get dm_X10_ending_0 40 rfl
theorem dX10_ending_69 : decode cX10_ending 69 = .ok (.bipush 12, 2) := dd_get dm_X10_ending_0 41 rfl
theorem dX10_ending_71 : decode cX10_ending 71 = .ok (.iload_n 3, 1) := dd_get dm_X10_ending_0 42 rfl
theorem dX10_ending_72 : decode cX10_ending 72 = .ok (.imul, 1) := dd_get dm_X10_ending_0 43 rfl
theorem dX10_ending_73 : decode cX10_ending 73 = .ok (.iadd, 1) := dd_get dm_X10_ending_0 44 rfl
theorem dX10_ending_74 : decode cX10_ending 74 = .ok (.ireturn, 1) := dd_get dm_X10_ending_0 45 rfl
theorem dX10_ending_75 : decode cX10_ending 75 = .ok (.iinc 3 1, 3) := dd_get dm_X10_ending_0 46 rfl
theorem dX10_ending_78 : decode cX10_ending 78 = .ok (.goto (-33), 3) := dd_get dm_X10_ending_0 47 rfl
theorem dX10_ending_81 : decode cX10_ending 81 = .ok (.iinc 2 1, 3) := dd_get dm_X10_ending_0 48 rfl
theorem dX10_ending_84 : decode cX10_ending 84 = .ok (.goto (-46), 3) := dd_get dm_X10_ending_0 49 rfl
theorem dX10_ending_87 : decode cX10_ending 87 = .ok (.aload_n 0, 1) := dd_get dm_X10_ending_0 50 rfl
theorem dX10_ending_88 : decode cX10_ending 88 = .ok (.invokevirtual 234, 3) := dd_get dm_X10_ending_0 51 rfl
theorem dX10_ending_91 : decode cX10_ending 91 = .ok (.iload_n 1, 1) := dd_get dm_X10_ending_0 52 rfl
theorem dX10_ending_92 : decode cX10_ending 92 = .ok (.i2l, 1) := dd_get dm_X10_ending_0 53 rfl
theorem dX10_ending_93 : decode cX10_ending 93 = .ok (.lcmp, 1) := dd_get dm_X10_ending_0 54 rfl
theorem dX10_ending_94 : decode cX10_ending 94 = .ok (.ifCond .lt 9, 3) := dd_get dm_X10_ending_0 55 rfl
theorem dX10_ending_97 : decode cX10_ending 97 = .ok (.sipush 2000, 3) := dd_get dm_X10_ending_0 56 rfl
theorem dX10_ending_100 : decode cX10_ending 100 = .ok (.goto 4, 3) := dd_get dm_X10_ending_0 57 rfl
theorem dX10_ending_103 : decode cX10_ending 103 = .ok (.iconst 0, 1) := dd_get dm_X10_ending_0 58 rfl
theorem dX10_ending_104 : decode cX10_ending 104 = .ok (.ireturn, 1) := dd_get dm_X10_ending_0 59 rfl
theorem dm_X10_freePair_0 : (([(0, .iconst (-1), 1), (1, .istore_n 1, 1), (2, .iconst 0, 1), (3, .istore_n 2, 1), (4, .iload_n 2, 1), (5, .sipush 144, 3), (8, .if_icmp .ge 101, 3), (11, .aload_n 0, 1), (12, .iload_n 2, 1), (13, .invokevirtual 204, 3), (16, .ifCond .eq 87, 3), (19, .aload_n 0, 1), (20, .getfield 72, 3), (23, .iload_n 2, 1), (24, .iaload, 1), (25, .ifCond .ne 78, 3), (28, .iload_n 1, 1), (29, .ifCond .lt 16, 3), (32, .aload_n 0, 1), (33, .iload_n 2, 1), (34, .invokevirtual 207, 3), (37, .aload_n 0, 1), (38, .iload_n 1, 1), (39, .invokevirtual 207, 3), (42, .if_icmp .eq 23, 3), (45, .iload_n 1, 1), (46, .ifCond .lt 11, 3), (49, .aload_n 0, 1), (50, .iload_n 2, 1), (51, .invokevirtual 207, 3), (54, .ifCond .eq 7, 3), (57, .iconst 1, 1), (58, .goto 34, 3), (61, .iconst 0, 1), (62, .goto 30, 3), (65, .aload_n 0, 1), (66, .iload_n 2, 1), (67, .invokevirtual 207, 3), (70, .ifCond .eq 21, 3), (73, .aload_n 0, 1), (74, .iload_n 2, 1), (75, .invokevirtual 197, 3), (78, .aload_n 0, 1), (79, .iload_n 1, 1), (80, .invokevirtual 197, 3), (83, .lcmp, 1), (84, .ifCond .ge 7, 3), (87, .iconst 1, 1), (88, .goto 4, 3), (91, .iconst 0, 1), (92, .istore_n 3, 1), (93, .iload_n 3, 1), (94, .ifCond .eq 7, 3), (97, .iload_n 2, 1), (98, .goto 4, 3), (101, .iload_n 1, 1), (102, .istore_n 1, 1), (103, .iinc 2 1, 3), (106, .goto (-102), 3), (109, .iload_n 1, 1)] : List (Nat × Instr × Nat)).all fun q => decide (decode cX10_freePair q.1 = .ok (q.2.1, q.2.2))) = true := by decide +kernel
theorem dX10_freePair_0 : decode cX10_freePair 0 = .ok (.iconst (-1), 1) := dd_get dm_X10_freePair_0 0 rfl
theorem dX10_freePair_1 : decode cX10_freePair 1 = .ok (.istore_n 1, 1) := dd_get dm_X10_freePair_0 1 rfl
theorem dX10_freePair_2 : decode cX10_freePair 2 = .ok (.iconst 0, 1) := dd_get dm_X10_freePair_0 2 rfl
theorem dX10_freePair_3 : decode cX10_freePair 3 = .ok (.istore_n 2, 1) := dd_get dm_X10_freePair_0 3 rfl
theorem dX10_freePair_4 : decode cX10_freePair 4 = .ok (.iload_n 2, 1) := dd_get dm_X10_freePair_0 4 rfl
theorem dX10_freePair_5 : decode cX10_freePair 5 = .ok (.sipush 144, 3) := dd_get dm_X10_freePair_0 5 rfl
theorem dX10_freePair_8 : decode cX10_freePair 8 = .ok (.if_icmp .ge 101, 3) := dd_get dm_X10_freePair_0 6 rfl
theorem dX10_freePair_11 : decode cX10_freePair 11 = .ok (.aload_n 0, 1) := dd_get dm_X10_freePair_0 7 rfl
theorem dX10_freePair_12 : decode cX10_freePair 12 = .ok (.iload_n 2, 1) := dd_get dm_X10_freePair_0 8 rfl
theorem dX10_freePair_13 : decode cX10_freePair 13 = .ok (.invokevirtual 204, 3) := dd_get dm_X10_freePair_0 9 rfl
theorem dX10_freePair_16 : decode cX10_freePair 16 = .ok (.ifCond .eq 87, 3) := dd_get dm_X10_freePair_0 10 rfl
theorem dX10_freePair_19 : decode cX10_freePair 19 = .ok (.aload_n 0, 1) := dd_get dm_X10_freePair_0 11 rfl
theorem dX10_freePair_20 : decode cX10_freePair 20 = .ok (.getfield 72, 3) := dd_get dm_X10_freePair_0 12 rfl
theorem dX10_freePair_23 : decode cX10_freePair 23 = .ok (.iload_n 2, 1) := dd_get dm_X10_freePair_0 13 rfl
theorem dX10_freePair_24 : decode cX10_freePair 24 = .ok (.iaload, 1) := dd_get dm_X10_freePair_0 14 rfl
theorem dX10_freePair_25 : decode cX10_freePair 25 = .ok (.ifCond .ne 78, 3) := dd_get dm_X10_freePair_0 15 rfl
theorem dX10_freePair_28 : decode cX10_freePair 28 = .ok (.iload_n 1, 1) := dd_get dm_X10_freePair_0 16 rfl
theorem dX10_freePair_29 : decode cX10_freePair 29 = .ok (.ifCond .lt 16, 3) := dd_get dm_X10_freePair_0 17 rfl
theorem dX10_freePair_32 : decode cX10_freePair 32 = .ok (.aload_n 0, 1) := dd_get dm_X10_freePair_0 18 rfl
theorem dX10_freePair_33 : decode cX10_freePair 33 = .ok (.iload_n 2, 1) := dd_get dm_X10_freePair_0 19 rfl
theorem dX10_freePair_34 : decode cX10_freePair 34 = .ok (.invokevirtual 207, 3) := dd_get dm_X10_freePair_0 20 rfl
theorem dX10_freePair_37 : decode cX10_freePair 37 = .ok (.aload_n 0, 1) := dd_get dm_X10_freePair_0 21 rfl
theorem dX10_freePair_38 : decode cX10_freePair 38 = .ok (.iload_n 1, 1) := dd_get dm_X10_freePair_0 22 rfl
theorem dX10_freePair_39 : decode cX10_freePair 39 = .ok (.invokevirtual 207, 3) := dd_get dm_X10_freePair_0 23 rfl
theorem dX10_freePair_42 : decode cX10_freePair 42 = .ok (.if_icmp .eq 23, 3) := dd_get dm_X10_freePair_0 24 rfl
theorem dX10_freePair_45 : decode cX10_freePair 45 = .ok (.iload_n 1, 1) := dd_get dm_X10_freePair_0 25 rfl
theorem dX10_freePair_46 : decode cX10_freePair 46 = .ok (.ifCond .lt 11, 3) := dd_get dm_X10_freePair_0 26 rfl
theorem dX10_freePair_49 : decode cX10_freePair 49 = .ok (.aload_n 0, 1) := dd_get dm_X10_freePair_0 27 rfl
theorem dX10_freePair_50 : decode cX10_freePair 50 = .ok (.iload_n 2, 1) := dd_get dm_X10_freePair_0 28 rfl
theorem dX10_freePair_51 : decode cX10_freePair 51 = .ok (.invokevirtual 207, 3) := dd_get dm_X10_freePair_0 29 rfl
theorem dX10_freePair_54 : decode cX10_freePair 54 = .ok (.ifCond .eq 7, 3) := dd_get dm_X10_freePair_0 30 rfl
theorem dX10_freePair_57 : decode cX10_freePair 57 = .ok (.iconst 1, 1) := dd_get dm_X10_freePair_0 31 rfl
theorem dX10_freePair_58 : decode cX10_freePair 58 = .ok (.goto 34, 3) := dd_get dm_X10_freePair_0 32 rfl
theorem dX10_freePair_61 : decode cX10_freePair 61 = .ok (.iconst 0, 1) := dd_get dm_X10_freePair_0 33 rfl
theorem dX10_freePair_62 : decode cX10_freePair 62 = .ok (.goto 30, 3) := dd_get dm_X10_freePair_0 34 rfl
theorem dX10_freePair_65 : decode cX10_freePair 65 = .ok (.aload_n 0, 1) := dd_get dm_X10_freePair_0 35 rfl
theorem dX10_freePair_66 : decode cX10_freePair 66 = .ok (.iload_n 2, 1) := dd_get dm_X10_freePair_0 36 rfl
theorem dX10_freePair_67 : decode cX10_freePair 67 = .ok (.invokevirtual 207, 3) := dd_get dm_X10_freePair_0 37 rfl
theorem dX10_freePair_70 : decode cX10_freePair 70 = .ok (.ifCond .eq 21, 3) := dd_get dm_X10_freePair_0 38 rfl
theorem dX10_freePair_73 : decode cX10_freePair 73 = .ok (.aload_n 0, 1) := dd_get dm_X10_freePair_0 39 rfl
theorem dX10_freePair_74 : decode cX10_freePair 74 = .ok (.iload_n 2, 1) := dd_get dm_X10_freePair_0 40 rfl
theorem dX10_freePair_75 : decode cX10_freePair 75 = .ok (.invokevirtual 197, 3) := dd_get dm_X10_freePair_0 41 rfl
theorem dX10_freePair_78 : decode cX10_freePair 78 = .ok (.aload_n 0, 1) := dd_get dm_X10_freePair_0 42 rfl
theorem dX10_freePair_79 : decode cX10_freePair 79 = .ok (.iload_n 1, 1) := dd_get dm_X10_freePair_0 43 rfl
theorem dX10_freePair_80 : decode cX10_freePair 80 = .ok (.invokevirtual 197, 3) := dd_get dm_X10_freePair_0 44 rfl
theorem dX10_freePair_83 : decode cX10_freePair 83 = .ok (.lcmp, 1) := dd_get dm_X10_freePair_0 45 rfl
theorem dX10_freePair_84 : decode cX10_freePair 84 = .ok (.ifCond .ge 7, 3) := dd_get dm_X10_freePair_0 46 rfl
theorem dX10_freePair_87 : decode cX10_freePair 87 = .ok (.iconst 1, 1) := dd_get dm_X10_freePair_0 47 rfl
theorem dX10_freePair_88 : decode cX10_freePair 88 = .ok (.goto 4, 3) := dd_get dm_X10_freePair_0 48 rfl
theorem dX10_freePair_91 : decode cX10_freePair 91 = .ok (.iconst 0, 1) := dd_get dm_X10_freePair_0 49 rfl
theorem dX10_freePair_92 : decode cX10_freePair 92 = .ok (.istore_n 3, 1) := dd_get dm_X10_freePair_0 50 rfl
theorem dX10_freePair_93 : decode cX10_freePair 93 = .ok (.iload_n 3, 1) := dd_get dm_X10_freePair_0 51 rfl
theorem dX10_freePair_94 : decode cX10_freePair 94 = .ok (.ifCond .eq 7, 3) := dd_get dm_X10_freePair_0 52 rfl
theorem dX10_freePair_97 : decode cX10_freePair 97 = .ok (.iload_n 2, 1) := dd_get dm_X10_freePair_0 53 rfl
theorem dX10_freePair_98 : decode cX10_freePair 98 = .ok (.goto 4, 3) := dd_get dm_X10_freePair_0 54 rfl
theorem dX10_freePair_101 : decode cX10_freePair 101 = .ok (.iload_n 1, 1) := dd_get dm_X10_freePair_0 55 rfl
theorem dX10_freePair_102 : decode cX10_freePair 102 = .ok (.istore_n 1, 1) := dd_get dm_X10_freePair_0 56 rfl
theorem dX10_freePair_103 : decode cX10_freePair 103 = .ok (.iinc 2 1, 3) := dd_get dm_X10_freePair_0 57 rfl
theorem dX10_freePair_106 : decode cX10_freePair 106 = .ok (.goto (-102), 3) := dd_get dm_X10_freePair_0 58 rfl
theorem dX10_freePair_109 : decode cX10_freePair 109 = .ok (.iload_n 1, 1) := dd_get dm_X10_freePair_0 59 rfl
theorem dm_X10_freePair_1 : (([(110, .ireturn, 1)] : List (Nat × Instr × Nat)).all fun q => decide (decode cX10_freePair q.1 = .ok (q.2.1, q.2.2))) = true := by decide +kernel
theorem dX10_freePair_110 : decode cX10_freePair 110 = .ok (.ireturn, 1) := dd_get dm_X10_freePair_1 0 rfl
theorem dm_X10_prove_0 : (([(0, .iload_n 1, 1), (1, .ifCond .ge 5, 3), (4, .iconst (-1), 1), (5, .ireturn, 1), (6, .aload_n 0, 1), (7, .invokevirtual 142, 3), (10, .iconst 3, 1), (11, .if_icmp .ge 6, 3), (14, .bipush (-4), 2), (16, .ireturn, 1), (17, .aload_n 0, 1), (18, .iconst 0, 1), (19, .putfield 267, 3), (22, .aload_n 0, 1), (23, .iconst 0, 1), (24, .putfield 240, 3), (27, .aload_n 0, 1), (28, .invokevirtual 231, 3), (31, .aload_n 0, 1), (32, .invokevirtual 264, 3), (35, .aload_n 0, 1), (36, .getfield 240, 3), (39, .ifCond .le 84, 3), (42, .aload_n 0, 1), (43, .invokevirtual 274, 3), (46, .aload_n 0, 1), (47, .iload_n 1, 1), (48, .invokevirtual 277, 3), (51, .istore_n 2, 1), (52, .iload_n 2, 1), (53, .ifCond .eq 11, 3), (56, .iload_n 2, 1), (57, .sipush 1000, 3), (60, .irem, 1), (61, .goto 7, 3), (64, .aload_n 0, 1), (65, .invokevirtual 280, 3), (68, .istore_n 3, 1), (69, .iload_n 3, 1), (70, .ifCond .lt 31, 3), (73, .aload_n 0, 1), (74, .iload_n 2, 1), (75, .ifCond .ne 7, 3), (78, .iconst 1, 1), (79, .goto 8, 3), (82, .iload_n 2, 1), (83, .sipush 1000, 3), (86, .idiv, 1), (87, .iload_n 3, 1), (88, .bipush 12, 2), (90, .idiv, 1), (91, .iload_n 3, 1), (92, .bipush 12, 2), (94, .irem, 1), (95, .invokevirtual 283, 3), (98, .ifCond .ne 6, 3), (101, .bipush (-9), 2), (103, .ireturn, 1), (104, .iload_n 2, 1), (105, .ifCond .ne 15, 3)] : List (Nat × Instr × Nat)).all fun q => decide (decode cX10_prove q.1 = .ok (q.2.1, q.2.2))) = true := by decide +kernel
theorem dX10_prove_0 : decode cX10_prove 0 = .ok (.iload_n 1, 1) := dd_get dm_X10_prove_0 0 rfl
theorem dX10_prove_1 : decode cX10_prove 1 = .ok (.ifCond .ge 5, 3) := dd_get dm_X10_prove_0 1 rfl
theorem dX10_prove_4 : decode cX10_prove 4 = .ok (.iconst (-1), 1) := dd_get dm_X10_prove_0 2 rfl
theorem dX10_prove_5 : decode cX10_prove 5 = .ok (.ireturn, 1) := dd_get dm_X10_prove_0 3 rfl
theorem dX10_prove_6 : decode cX10_prove 6 = .ok (.aload_n 0, 1) := dd_get dm_X10_prove_0 4 rfl
theorem dX10_prove_7 : decode cX10_prove 7 = .ok (.invokevirtual 142, 3) := dd_get dm_X10_prove_0 5 rfl
theorem dX10_prove_10 : decode cX10_prove 10 = .ok (.iconst 3, 1) := dd_get dm_X10_prove_0 6 rfl
theorem dX10_prove_11 : decode cX10_prove 11 = .ok (.if_icmp .ge 6, 3) := dd_get dm_X10_prove_0 7 rfl
theorem dX10_prove_14 : decode cX10_prove 14 = .ok (.bipush (-4), 2) := dd_get dm_X10_prove_0 8 rfl
theorem dX10_prove_16 : decode cX10_prove 16 = .ok (.ireturn, 1) := dd_get dm_X10_prove_0 9 rfl
theorem dX10_prove_17 : decode cX10_prove 17 = .ok (.aload_n 0, 1) := dd_get dm_X10_prove_0 10 rfl
theorem dX10_prove_18 : decode cX10_prove 18 = .ok (.iconst 0, 1) := dd_get dm_X10_prove_0 11 rfl
theorem dX10_prove_19 : decode cX10_prove 19 = .ok (.putfield 267, 3) := dd_get dm_X10_prove_0 12 rfl
theorem dX10_prove_22 : decode cX10_prove 22 = .ok (.aload_n 0, 1) := dd_get dm_X10_prove_0 13 rfl
theorem dX10_prove_23 : decode cX10_prove 23 = .ok (.iconst 0, 1) := dd_get dm_X10_prove_0 14 rfl
theorem dX10_prove_24 : decode cX10_prove 24 = .ok (.putfield 240, 3) := dd_get dm_X10_prove_0 15 rfl
theorem dX10_prove_27 : decode cX10_prove 27 = .ok (.aload_n 0, 1) := dd_get dm_X10_prove_0 16 rfl
theorem dX10_prove_28 : decode cX10_prove 28 = .ok (.invokevirtual 231, 3) := dd_get dm_X10_prove_0 17 rfl
theorem dX10_prove_31 : decode cX10_prove 31 = .ok (.aload_n 0, 1) := dd_get dm_X10_prove_0 18 rfl
theorem dX10_prove_32 : decode cX10_prove 32 = .ok (.invokevirtual 264, 3) := dd_get dm_X10_prove_0 19 rfl
theorem dX10_prove_35 : decode cX10_prove 35 = .ok (.aload_n 0, 1) := dd_get dm_X10_prove_0 20 rfl
theorem dX10_prove_36 : decode cX10_prove 36 = .ok (.getfield 240, 3) := dd_get dm_X10_prove_0 21 rfl
theorem dX10_prove_39 : decode cX10_prove 39 = .ok (.ifCond .le 84, 3) := dd_get dm_X10_prove_0 22 rfl
theorem dX10_prove_42 : decode cX10_prove 42 = .ok (.aload_n 0, 1) := dd_get dm_X10_prove_0 23 rfl
theorem dX10_prove_43 : decode cX10_prove 43 = .ok (.invokevirtual 274, 3) := dd_get dm_X10_prove_0 24 rfl
theorem dX10_prove_46 : decode cX10_prove 46 = .ok (.aload_n 0, 1) := dd_get dm_X10_prove_0 25 rfl
theorem dX10_prove_47 : decode cX10_prove 47 = .ok (.iload_n 1, 1) := dd_get dm_X10_prove_0 26 rfl
theorem dX10_prove_48 : decode cX10_prove 48 = .ok (.invokevirtual 277, 3) := dd_get dm_X10_prove_0 27 rfl
theorem dX10_prove_51 : decode cX10_prove 51 = .ok (.istore_n 2, 1) := dd_get dm_X10_prove_0 28 rfl
theorem dX10_prove_52 : decode cX10_prove 52 = .ok (.iload_n 2, 1) := dd_get dm_X10_prove_0 29 rfl
theorem dX10_prove_53 : decode cX10_prove 53 = .ok (.ifCond .eq 11, 3) := dd_get dm_X10_prove_0 30 rfl
theorem dX10_prove_56 : decode cX10_prove 56 = .ok (.iload_n 2, 1) := dd_get dm_X10_prove_0 31 rfl
theorem dX10_prove_57 : decode cX10_prove 57 = .ok (.sipush 1000, 3) := dd_get dm_X10_prove_0 32 rfl
theorem dX10_prove_60 : decode cX10_prove 60 = .ok (.irem, 1) := dd_get dm_X10_prove_0 33 rfl
theorem dX10_prove_61 : decode cX10_prove 61 = .ok (.goto 7, 3) := dd_get dm_X10_prove_0 34 rfl
theorem dX10_prove_64 : decode cX10_prove 64 = .ok (.aload_n 0, 1) := dd_get dm_X10_prove_0 35 rfl
theorem dX10_prove_65 : decode cX10_prove 65 = .ok (.invokevirtual 280, 3) := dd_get dm_X10_prove_0 36 rfl
theorem dX10_prove_68 : decode cX10_prove 68 = .ok (.istore_n 3, 1) := dd_get dm_X10_prove_0 37 rfl
theorem dX10_prove_69 : decode cX10_prove 69 = .ok (.iload_n 3, 1) := dd_get dm_X10_prove_0 38 rfl
theorem dX10_prove_70 : decode cX10_prove 70 = .ok (.ifCond .lt 31, 3) := dd_get dm_X10_prove_0 39 rfl
theorem dX10_prove_73 : decode cX10_prove 73 = .ok (.aload_n 0, 1) := dd_get dm_X10_prove_0 40 rfl
theorem dX10_prove_74 : decode cX10_prove 74 = .ok (.iload_n 2, 1) := dd_get dm_X10_prove_0 41 rfl
theorem dX10_prove_75 : decode cX10_prove 75 = .ok (.ifCond .ne 7, 3) := dd_get dm_X10_prove_0 42 rfl
theorem dX10_prove_78 : decode cX10_prove 78 = .ok (.iconst 1, 1) := dd_get dm_X10_prove_0 43 rfl
theorem dX10_prove_79 : decode cX10_prove 79 = .ok (.goto 8, 3) := dd_get dm_X10_prove_0 44 rfl
theorem dX10_prove_82 : decode cX10_prove 82 = .ok (.iload_n 2, 1) := dd_get dm_X10_prove_0 45 rfl
theorem dX10_prove_83 : decode cX10_prove 83 = .ok (.sipush 1000, 3) := dd_get dm_X10_prove_0 46 rfl
theorem dX10_prove_86 : decode cX10_prove 86 = .ok (.idiv, 1) := dd_get dm_X10_prove_0 47 rfl
theorem dX10_prove_87 : decode cX10_prove 87 = .ok (.iload_n 3, 1) := dd_get dm_X10_prove_0 48 rfl
theorem dX10_prove_88 : decode cX10_prove 88 = .ok (.bipush 12, 2) := dd_get dm_X10_prove_0 49 rfl
theorem dX10_prove_90 : decode cX10_prove 90 = .ok (.idiv, 1) := dd_get dm_X10_prove_0 50 rfl
theorem dX10_prove_91 : decode cX10_prove 91 = .ok (.iload_n 3, 1) := dd_get dm_X10_prove_0 51 rfl
theorem dX10_prove_92 : decode cX10_prove 92 = .ok (.bipush 12, 2) := dd_get dm_X10_prove_0 52 rfl
theorem dX10_prove_94 : decode cX10_prove 94 = .ok (.irem, 1) := dd_get dm_X10_prove_0 53 rfl
theorem dX10_prove_95 : decode cX10_prove 95 = .ok (.invokevirtual 283, 3) := dd_get dm_X10_prove_0 54 rfl
theorem dX10_prove_98 : decode cX10_prove 98 = .ok (.ifCond .ne 6, 3) := dd_get dm_X10_prove_0 55 rfl
theorem dX10_prove_101 : decode cX10_prove 101 = .ok (.bipush (-9), 2) := dd_get dm_X10_prove_0 56 rfl
theorem dX10_prove_103 : decode cX10_prove 103 = .ok (.ireturn, 1) := dd_get dm_X10_prove_0 57 rfl
theorem dX10_prove_104 : decode cX10_prove 104 = .ok (.iload_n 2, 1) := dd_get dm_X10_prove_0 58 rfl
theorem dX10_prove_105 : decode cX10_prove 105 = .ok (.ifCond .ne 15, 3) := dd_get dm_X10_prove_0 59 rfl
theorem dm_X10_prove_1 : (([(108, .aload_n 0, 1), (109, .iload_n 3, 1), (110, .bipush 12, 2), (112, .idiv, 1), (113, .iload_n 3, 1), (114, .bipush 12, 2), (116, .irem, 1), (117, .invokevirtual 286, 3), (120, .goto (-85), 3), (123, .aload_n 0, 1), (124, .aload_n 0, 1), (125, .getfield 267, 3), (128, .putfield 146, 3), (131, .iconst 0, 1), (132, .istore_n 2, 1), (133, .iload_n 2, 1), (134, .aload_n 0, 1), (135, .getfield 267, 3), (138, .if_icmp .ge 45, 3), (141, .aload_n 0, 1), (142, .getfield 54, 3), (145, .iload_n 2, 1), (146, .aload_n 0, 1), (147, .getfield 90, 3), (150, .iload_n 2, 1), (151, .iaload, 1), (152, .iastore, 1), (153, .aload_n 0, 1), (154, .getfield 57, 3), (157, .iload_n 2, 1), (158, .aload_n 0, 1), (159, .getfield 93, 3), (162, .iload_n 2, 1), (163, .iaload, 1), (164, .iastore, 1), (165, .aload_n 0, 1), (166, .getfield 60, 3), (169, .iload_n 2, 1), (170, .aload_n 0, 1), (171, .getfield 96, 3), (174, .iload_n 2, 1), (175, .iaload, 1), (176, .iastore, 1), (177, .iinc 2 1, 3), (180, .goto (-47), 3), (183, .aload_n 0, 1), (184, .getfield 146, 3), (187, .ireturn, 1)] : List (Nat × Instr × Nat)).all fun q => decide (decode cX10_prove q.1 = .ok (q.2.1, q.2.2))) = true := by decide +kernel
theorem dX10_prove_108 : decode cX10_prove 108 = .ok (.aload_n 0, 1) := dd_get dm_X10_prove_1 0 rfl
theorem dX10_prove_109 : decode cX10_prove 109 = .ok (.iload_n 3, 1) := dd_get dm_X10_prove_1 1 rfl
theorem dX10_prove_110 : decode cX10_prove 110 = .ok (.bipush 12, 2) := dd_get dm_X10_prove_1 2 rfl
theorem dX10_prove_112 : decode cX10_prove 112 = .ok (.idiv, 1) := dd_get dm_X10_prove_1 3 rfl
theorem dX10_prove_113 : decode cX10_prove 113 = .ok (.iload_n 3, 1) := dd_get dm_X10_prove_1 4 rfl
theorem dX10_prove_114 : decode cX10_prove 114 = .ok (.bipush 12, 2) := dd_get dm_X10_prove_1 5 rfl
theorem dX10_prove_116 : decode cX10_prove 116 = .ok (.irem, 1) := dd_get dm_X10_prove_1 6 rfl
theorem dX10_prove_117 : decode cX10_prove 117 = .ok (.invokevirtual 286, 3) := dd_get dm_X10_prove_1 7 rfl
theorem dX10_prove_120 : decode cX10_prove 120 = .ok (.goto (-85), 3) := dd_get dm_X10_prove_1 8 rfl
theorem dX10_prove_123 : decode cX10_prove 123 = .ok (.aload_n 0, 1) := dd_get dm_X10_prove_1 9 rfl
theorem dX10_prove_124 : decode cX10_prove 124 = .ok (.aload_n 0, 1) := dd_get dm_X10_prove_1 10 rfl
theorem dX10_prove_125 : decode cX10_prove 125 = .ok (.getfield 267, 3) := dd_get dm_X10_prove_1 11 rfl
theorem dX10_prove_128 : decode cX10_prove 128 = .ok (.putfield 146, 3) := dd_get dm_X10_prove_1 12 rfl
theorem dX10_prove_131 : decode cX10_prove 131 = .ok (.iconst 0, 1) := dd_get dm_X10_prove_1 13 rfl
theorem dX10_prove_132 : decode cX10_prove 132 = .ok (.istore_n 2, 1) := dd_get dm_X10_prove_1 14 rfl
theorem dX10_prove_133 : decode cX10_prove 133 = .ok (.iload_n 2, 1) := dd_get dm_X10_prove_1 15 rfl
theorem dX10_prove_134 : decode cX10_prove 134 = .ok (.aload_n 0, 1) := dd_get dm_X10_prove_1 16 rfl
theorem dX10_prove_135 : decode cX10_prove 135 = .ok (.getfield 267, 3) := dd_get dm_X10_prove_1 17 rfl
theorem dX10_prove_138 : decode cX10_prove 138 = .ok (.if_icmp .ge 45, 3) := dd_get dm_X10_prove_1 18 rfl
theorem dX10_prove_141 : decode cX10_prove 141 = .ok (.aload_n 0, 1) := dd_get dm_X10_prove_1 19 rfl
theorem dX10_prove_142 : decode cX10_prove 142 = .ok (.getfield 54, 3) := dd_get dm_X10_prove_1 20 rfl
theorem dX10_prove_145 : decode cX10_prove 145 = .ok (.iload_n 2, 1) := dd_get dm_X10_prove_1 21 rfl
theorem dX10_prove_146 : decode cX10_prove 146 = .ok (.aload_n 0, 1) := dd_get dm_X10_prove_1 22 rfl
theorem dX10_prove_147 : decode cX10_prove 147 = .ok (.getfield 90, 3) := dd_get dm_X10_prove_1 23 rfl
theorem dX10_prove_150 : decode cX10_prove 150 = .ok (.iload_n 2, 1) := dd_get dm_X10_prove_1 24 rfl
theorem dX10_prove_151 : decode cX10_prove 151 = .ok (.iaload, 1) := dd_get dm_X10_prove_1 25 rfl
theorem dX10_prove_152 : decode cX10_prove 152 = .ok (.iastore, 1) := dd_get dm_X10_prove_1 26 rfl
theorem dX10_prove_153 : decode cX10_prove 153 = .ok (.aload_n 0, 1) := dd_get dm_X10_prove_1 27 rfl
theorem dX10_prove_154 : decode cX10_prove 154 = .ok (.getfield 57, 3) := dd_get dm_X10_prove_1 28 rfl
theorem dX10_prove_157 : decode cX10_prove 157 = .ok (.iload_n 2, 1) := dd_get dm_X10_prove_1 29 rfl
theorem dX10_prove_158 : decode cX10_prove 158 = .ok (.aload_n 0, 1) := dd_get dm_X10_prove_1 30 rfl
theorem dX10_prove_159 : decode cX10_prove 159 = .ok (.getfield 93, 3) := dd_get dm_X10_prove_1 31 rfl
theorem dX10_prove_162 : decode cX10_prove 162 = .ok (.iload_n 2, 1) := dd_get dm_X10_prove_1 32 rfl
theorem dX10_prove_163 : decode cX10_prove 163 = .ok (.iaload, 1) := dd_get dm_X10_prove_1 33 rfl
theorem dX10_prove_164 : decode cX10_prove 164 = .ok (.iastore, 1) := dd_get dm_X10_prove_1 34 rfl
theorem dX10_prove_165 : decode cX10_prove 165 = .ok (.aload_n 0, 1) := dd_get dm_X10_prove_1 35 rfl
theorem dX10_prove_166 : decode cX10_prove 166 = .ok (.getfield 60, 3) := dd_get dm_X10_prove_1 36 rfl
theorem dX10_prove_169 : decode cX10_prove 169 = .ok (.iload_n 2, 1) := dd_get dm_X10_prove_1 37 rfl
theorem dX10_prove_170 : decode cX10_prove 170 = .ok (.aload_n 0, 1) := dd_get dm_X10_prove_1 38 rfl
theorem dX10_prove_171 : decode cX10_prove 171 = .ok (.getfield 96, 3) := dd_get dm_X10_prove_1 39 rfl
theorem dX10_prove_174 : decode cX10_prove 174 = .ok (.iload_n 2, 1) := dd_get dm_X10_prove_1 40 rfl
theorem dX10_prove_175 : decode cX10_prove 175 = .ok (.iaload, 1) := dd_get dm_X10_prove_1 41 rfl
theorem dX10_prove_176 : decode cX10_prove 176 = .ok (.iastore, 1) := dd_get dm_X10_prove_1 42 rfl
theorem dX10_prove_177 : decode cX10_prove 177 = .ok (.iinc 2 1, 3) := dd_get dm_X10_prove_1 43 rfl
theorem dX10_prove_180 : decode cX10_prove 180 = .ok (.goto (-47), 3) := dd_get dm_X10_prove_1 44 rfl
theorem dX10_prove_183 : decode cX10_prove 183 = .ok (.aload_n 0, 1) := dd_get dm_X10_prove_1 45 rfl
theorem dX10_prove_184 : decode cX10_prove 184 = .ok (.getfield 146, 3) := dd_get dm_X10_prove_1 46 rfl
theorem dX10_prove_187 : decode cX10_prove 187 = .ok (.ireturn, 1) := dd_get dm_X10_prove_1 47 rfl
theorem dm_X10_line_0 : (([(0, .iload_n 1, 1), (1, .iconst 1, 1), (2, .if_icmp .lt 9, 3), (5, .iload_n 1, 1), (6, .bipush 6, 2), (8, .if_icmp .le 5, 3), (11, .iconst (-1), 1), (12, .ireturn, 1), (13, .aload_n 0, 1), (14, .getfield 146, 3), (17, .sipush 400, 3), (20, .if_icmp .ne 6, 3), (23, .bipush (-2), 2), (25, .ireturn, 1), (26, .aload_n 0, 1), (27, .dup, 1), (28, .getfield 146, 3), (31, .iconst 1, 1), (32, .iadd, 1), (33, .putfield 146, 3), (36, .aload_n 0, 1), (37, .aload_n 0, 1), (38, .getfield 146, 3), (41, .iconst 1, 1), (42, .isub, 1), (43, .iload_n 1, 1), (44, .iload_n 2, 1), (45, .iload_n 3, 1), (46, .invokevirtual 289, 3), (49, .iconst 1, 1), (50, .if_icmp .ne 10, 3), (53, .aload_n 0, 1), (54, .getfield 146, 3), (57, .goto 4, 3), (60, .iconst (-1), 1), (61, .ireturn, 1)] : List (Nat × Instr × Nat)).all fun q => decide (decode cX10_line q.1 = .ok (q.2.1, q.2.2))) = true := by decide +kernel
theorem dX10_line_0 : decode cX10_line 0 = .ok (.iload_n 1, 1) := dd_get dm_X10_line_0 0 rfl
theorem dX10_line_1 : decode cX10_line 1 = .ok (.iconst 1, 1) := dd_get dm_X10_line_0 1 rfl
theorem dX10_line_2 : decode cX10_line 2 = .ok (.if_icmp .lt 9, 3) := dd_get dm_X10_line_0 2 rfl
theorem dX10_line_5 : decode cX10_line 5 = .ok (.iload_n 1, 1) := dd_get dm_X10_line_0 3 rfl
theorem dX10_line_6 : decode cX10_line 6 = .ok (.bipush 6, 2) := dd_get dm_X10_line_0 4 rfl
theorem dX10_line_8 : decode cX10_line 8 = .ok (.if_icmp .le 5, 3) := dd_get dm_X10_line_0 5 rfl
theorem dX10_line_11 : decode cX10_line 11 = .ok (.iconst (-1), 1) := dd_get dm_X10_line_0 6 rfl
theorem dX10_line_12 : decode cX10_line 12 = .ok (.ireturn, 1) := dd_get dm_X10_line_0 7 rfl
theorem dX10_line_13 : decode cX10_line 13 = .ok (.aload_n 0, 1) := dd_get dm_X10_line_0 8 rfl
theorem dX10_line_14 : decode cX10_line 14 = .ok (.getfield 146, 3) := dd_get dm_X10_line_0 9 rfl
theorem dX10_line_17 : decode cX10_line 17 = .ok (.sipush 400, 3) := dd_get dm_X10_line_0 10 rfl
theorem dX10_line_20 : decode cX10_line 20 = .ok (.if_icmp .ne 6, 3) := dd_get dm_X10_line_0 11 rfl
theorem dX10_line_23 : decode cX10_line 23 = .ok (.bipush (-2), 2) := dd_get dm_X10_line_0 12 rfl
theorem dX10_line_25 : decode cX10_line 25 = .ok (.ireturn, 1) := dd_get dm_X10_line_0 13 rfl
theorem dX10_line_26 : decode cX10_line 26 = .ok (.aload_n 0, 1) := dd_get dm_X10_line_0 14 rfl
theorem dX10_line_27 : decode cX10_line 27 = .ok (.dup, 1) := dd_get dm_X10_line_0 15 rfl
theorem dX10_line_28 : decode cX10_line 28 = .ok (.getfield 146, 3) := dd_get dm_X10_line_0 16 rfl
theorem dX10_line_31 : decode cX10_line 31 = .ok (.iconst 1, 1) := dd_get dm_X10_line_0 17 rfl
theorem dX10_line_32 : decode cX10_line 32 = .ok (.iadd, 1) := dd_get dm_X10_line_0 18 rfl
theorem dX10_line_33 : decode cX10_line 33 = .ok (.putfield 146, 3) := dd_get dm_X10_line_0 19 rfl
theorem dX10_line_36 : decode cX10_line 36 = .ok (.aload_n 0, 1) := dd_get dm_X10_line_0 20 rfl
theorem dX10_line_37 : decode cX10_line 37 = .ok (.aload_n 0, 1) := dd_get dm_X10_line_0 21 rfl
theorem dX10_line_38 : decode cX10_line 38 = .ok (.getfield 146, 3) := dd_get dm_X10_line_0 22 rfl
theorem dX10_line_41 : decode cX10_line 41 = .ok (.iconst 1, 1) := dd_get dm_X10_line_0 23 rfl
theorem dX10_line_42 : decode cX10_line 42 = .ok (.isub, 1) := dd_get dm_X10_line_0 24 rfl
theorem dX10_line_43 : decode cX10_line 43 = .ok (.iload_n 1, 1) := dd_get dm_X10_line_0 25 rfl
theorem dX10_line_44 : decode cX10_line 44 = .ok (.iload_n 2, 1) := dd_get dm_X10_line_0 26 rfl
theorem dX10_line_45 : decode cX10_line 45 = .ok (.iload_n 3, 1) := dd_get dm_X10_line_0 27 rfl
theorem dX10_line_46 : decode cX10_line 46 = .ok (.invokevirtual 289, 3) := dd_get dm_X10_line_0 28 rfl
theorem dX10_line_49 : decode cX10_line 49 = .ok (.iconst 1, 1) := dd_get dm_X10_line_0 29 rfl
theorem dX10_line_50 : decode cX10_line 50 = .ok (.if_icmp .ne 10, 3) := dd_get dm_X10_line_0 30 rfl
theorem dX10_line_53 : decode cX10_line 53 = .ok (.aload_n 0, 1) := dd_get dm_X10_line_0 31 rfl
theorem dX10_line_54 : decode cX10_line 54 = .ok (.getfield 146, 3) := dd_get dm_X10_line_0 32 rfl
theorem dX10_line_57 : decode cX10_line 57 = .ok (.goto 4, 3) := dd_get dm_X10_line_0 33 rfl
theorem dX10_line_60 : decode cX10_line 60 = .ok (.iconst (-1), 1) := dd_get dm_X10_line_0 34 rfl
theorem dX10_line_61 : decode cX10_line 61 = .ok (.ireturn, 1) := dd_get dm_X10_line_0 35 rfl
theorem dm_X10_alter_0 : (([(0, .iload_n 1, 1), (1, .ifCond .lt 22, 3), (4, .iload_n 1, 1), (5, .aload_n 0, 1), (6, .getfield 146, 3), (9, .if_icmp .ge 14, 3), (12, .iload_n 2, 1), (13, .iconst 1, 1), (14, .if_icmp .lt 9, 3), (17, .iload_n 2, 1), (18, .bipush 6, 2), (20, .if_icmp .le 5, 3), (23, .iconst (-1), 1), (24, .ireturn, 1), (25, .aload_n 0, 1), (26, .getfield 54, 3), (29, .iload_n 1, 1), (30, .iload_n 2, 1), (31, .iastore, 1), (32, .aload_n 0, 1), (33, .getfield 57, 3), (36, .iload_n 1, 1), (37, .iload_n 3, 1), (38, .iastore, 1), (39, .aload_n 0, 1), (40, .getfield 60, 3), (43, .iload_n 1, 1), (44, .iload 4, 2), (46, .iastore, 1), (47, .iconst 1, 1), (48, .ireturn, 1)] : List (Nat × Instr × Nat)).all fun q => decide (decode cX10_alter q.1 = .ok (q.2.1, q.2.2))) = true := by decide +kernel
theorem dX10_alter_0 : decode cX10_alter 0 = .ok (.iload_n 1, 1) := dd_get dm_X10_alter_0 0 rfl
theorem dX10_alter_1 : decode cX10_alter 1 = .ok (.ifCond .lt 22, 3) := dd_get dm_X10_alter_0 1 rfl
theorem dX10_alter_4 : decode cX10_alter 4 = .ok (.iload_n 1, 1) := dd_get dm_X10_alter_0 2 rfl
theorem dX10_alter_5 : decode cX10_alter 5 = .ok (.aload_n 0, 1) := dd_get dm_X10_alter_0 3 rfl
theorem dX10_alter_6 : decode cX10_alter 6 = .ok (.getfield 146, 3) := dd_get dm_X10_alter_0 4 rfl
theorem dX10_alter_9 : decode cX10_alter 9 = .ok (.if_icmp .ge 14, 3) := dd_get dm_X10_alter_0 5 rfl
theorem dX10_alter_12 : decode cX10_alter 12 = .ok (.iload_n 2, 1) := dd_get dm_X10_alter_0 6 rfl
theorem dX10_alter_13 : decode cX10_alter 13 = .ok (.iconst 1, 1) := dd_get dm_X10_alter_0 7 rfl
theorem dX10_alter_14 : decode cX10_alter 14 = .ok (.if_icmp .lt 9, 3) := dd_get dm_X10_alter_0 8 rfl
theorem dX10_alter_17 : decode cX10_alter 17 = .ok (.iload_n 2, 1) := dd_get dm_X10_alter_0 9 rfl
theorem dX10_alter_18 : decode cX10_alter 18 = .ok (.bipush 6, 2) := dd_get dm_X10_alter_0 10 rfl
theorem dX10_alter_20 : decode cX10_alter 20 = .ok (.if_icmp .le 5, 3) := dd_get dm_X10_alter_0 11 rfl
theorem dX10_alter_23 : decode cX10_alter 23 = .ok (.iconst (-1), 1) := dd_get dm_X10_alter_0 12 rfl
theorem dX10_alter_24 : decode cX10_alter 24 = .ok (.ireturn, 1) := dd_get dm_X10_alter_0 13 rfl
theorem dX10_alter_25 : decode cX10_alter 25 = .ok (.aload_n 0, 1) := dd_get dm_X10_alter_0 14 rfl
theorem dX10_alter_26 : decode cX10_alter 26 = .ok (.getfield 54, 3) := dd_get dm_X10_alter_0 15 rfl
theorem dX10_alter_29 : decode cX10_alter 29 = .ok (.iload_n 1, 1) := dd_get dm_X10_alter_0 16 rfl
theorem dX10_alter_30 : decode cX10_alter 30 = .ok (.iload_n 2, 1) := dd_get dm_X10_alter_0 17 rfl
theorem dX10_alter_31 : decode cX10_alter 31 = .ok (.iastore, 1) := dd_get dm_X10_alter_0 18 rfl
theorem dX10_alter_32 : decode cX10_alter 32 = .ok (.aload_n 0, 1) := dd_get dm_X10_alter_0 19 rfl
theorem dX10_alter_33 : decode cX10_alter 33 = .ok (.getfield 57, 3) := dd_get dm_X10_alter_0 20 rfl
theorem dX10_alter_36 : decode cX10_alter 36 = .ok (.iload_n 1, 1) := dd_get dm_X10_alter_0 21 rfl
theorem dX10_alter_37 : decode cX10_alter 37 = .ok (.iload_n 3, 1) := dd_get dm_X10_alter_0 22 rfl
theorem dX10_alter_38 : decode cX10_alter 38 = .ok (.iastore, 1) := dd_get dm_X10_alter_0 23 rfl
theorem dX10_alter_39 : decode cX10_alter 39 = .ok (.aload_n 0, 1) := dd_get dm_X10_alter_0 24 rfl
theorem dX10_alter_40 : decode cX10_alter 40 = .ok (.getfield 60, 3) := dd_get dm_X10_alter_0 25 rfl
theorem dX10_alter_43 : decode cX10_alter 43 = .ok (.iload_n 1, 1) := dd_get dm_X10_alter_0 26 rfl
theorem dX10_alter_44 : decode cX10_alter 44 = .ok (.iload 4, 2) := dd_get dm_X10_alter_0 27 rfl
theorem dX10_alter_46 : decode cX10_alter 46 = .ok (.iastore, 1) := dd_get dm_X10_alter_0 28 rfl
theorem dX10_alter_47 : decode cX10_alter 47 = .ok (.iconst 1, 1) := dd_get dm_X10_alter_0 29 rfl
theorem dX10_alter_48 : decode cX10_alter 48 = .ok (.ireturn, 1) := dd_get dm_X10_alter_0 30 rfl
theorem dm_X10_cut_0 : (([(0, .iload_n 1, 1), (1, .ifCond .lt 11, 3), (4, .iload_n 1, 1), (5, .aload_n 0, 1), (6, .getfield 146, 3), (9, .if_icmp .le 5, 3), (12, .iconst (-1), 1), (13, .ireturn, 1), (14, .aload_n 0, 1), (15, .iload_n 1, 1), (16, .putfield 146, 3), (19, .iload_n 1, 1), (20, .ireturn, 1)] : List (Nat × Instr × Nat)).all fun q => decide (decode cX10_cut q.1 = .ok (q.2.1, q.2.2))) = true := by decide +kernel
theorem dX10_cut_0 : decode cX10_cut 0 = .ok (.iload_n 1, 1) := dd_get dm_X10_cut_0 0 rfl
theorem dX10_cut_1 : decode cX10_cut 1 = .ok (.ifCond .lt 11, 3) := dd_get dm_X10_cut_0 1 rfl
theorem dX10_cut_4 : decode cX10_cut 4 = .ok (.iload_n 1, 1) := dd_get dm_X10_cut_0 2 rfl
theorem dX10_cut_5 : decode cX10_cut 5 = .ok (.aload_n 0, 1) := dd_get dm_X10_cut_0 3 rfl
theorem dX10_cut_6 : decode cX10_cut 6 = .ok (.getfield 146, 3) := dd_get dm_X10_cut_0 4 rfl
theorem dX10_cut_9 : decode cX10_cut 9 = .ok (.if_icmp .le 5, 3) := dd_get dm_X10_cut_0 5 rfl
theorem dX10_cut_12 : decode cX10_cut 12 = .ok (.iconst (-1), 1) := dd_get dm_X10_cut_0 6 rfl
theorem dX10_cut_13 : decode cX10_cut 13 = .ok (.ireturn, 1) := dd_get dm_X10_cut_0 7 rfl
theorem dX10_cut_14 : decode cX10_cut 14 = .ok (.aload_n 0, 1) := dd_get dm_X10_cut_0 8 rfl
theorem dX10_cut_15 : decode cX10_cut 15 = .ok (.iload_n 1, 1) := dd_get dm_X10_cut_0 9 rfl
theorem dX10_cut_16 : decode cX10_cut 16 = .ok (.putfield 146, 3) := dd_get dm_X10_cut_0 10 rfl
theorem dX10_cut_19 : decode cX10_cut 19 = .ok (.iload_n 1, 1) := dd_get dm_X10_cut_0 11 rfl
theorem dX10_cut_20 : decode cX10_cut 20 = .ok (.ireturn, 1) := dd_get dm_X10_cut_0 12 rfl
theorem dm_X10_shown_0 : (([(0, .iload_n 1, 1), (1, .ifCond .lt 20, 3), (4, .iload_n 1, 1), (5, .aload_n 0, 1), (6, .getfield 146, 3), (9, .if_icmp .ge 12, 3), (12, .iload_n 2, 1), (13, .ifCond .lt 8, 3), (16, .iload_n 2, 1), (17, .iconst 2, 1), (18, .if_icmp .le 6, 3), (21, .ldc 141, 2), (23, .ireturn, 1), (24, .iload_n 2, 1), (25, .ifCond .ne 12, 3), (28, .aload_n 0, 1), (29, .getfield 54, 3), (32, .iload_n 1, 1), (33, .iaload, 1), (34, .goto 23, 3), (37, .iload_n 2, 1), (38, .iconst 1, 1), (39, .if_icmp .ne 12, 3), (42, .aload_n 0, 1), (43, .getfield 57, 3), (46, .iload_n 1, 1), (47, .iaload, 1), (48, .goto 9, 3), (51, .aload_n 0, 1), (52, .getfield 60, 3), (55, .iload_n 1, 1), (56, .iaload, 1), (57, .ireturn, 1)] : List (Nat × Instr × Nat)).all fun q => decide (decode cX10_shown q.1 = .ok (q.2.1, q.2.2))) = true := by decide +kernel
theorem dX10_shown_0 : decode cX10_shown 0 = .ok (.iload_n 1, 1) := dd_get dm_X10_shown_0 0 rfl
theorem dX10_shown_1 : decode cX10_shown 1 = .ok (.ifCond .lt 20, 3) := dd_get dm_X10_shown_0 1 rfl
theorem dX10_shown_4 : decode cX10_shown 4 = .ok (.iload_n 1, 1) := dd_get dm_X10_shown_0 2 rfl
theorem dX10_shown_5 : decode cX10_shown 5 = .ok (.aload_n 0, 1) := dd_get dm_X10_shown_0 3 rfl
theorem dX10_shown_6 : decode cX10_shown 6 = .ok (.getfield 146, 3) := dd_get dm_X10_shown_0 4 rfl
theorem dX10_shown_9 : decode cX10_shown 9 = .ok (.if_icmp .ge 12, 3) := dd_get dm_X10_shown_0 5 rfl
theorem dX10_shown_12 : decode cX10_shown 12 = .ok (.iload_n 2, 1) := dd_get dm_X10_shown_0 6 rfl
theorem dX10_shown_13 : decode cX10_shown 13 = .ok (.ifCond .lt 8, 3) := dd_get dm_X10_shown_0 7 rfl
theorem dX10_shown_16 : decode cX10_shown 16 = .ok (.iload_n 2, 1) := dd_get dm_X10_shown_0 8 rfl
theorem dX10_shown_17 : decode cX10_shown 17 = .ok (.iconst 2, 1) := dd_get dm_X10_shown_0 9 rfl
theorem dX10_shown_18 : decode cX10_shown 18 = .ok (.if_icmp .le 6, 3) := dd_get dm_X10_shown_0 10 rfl
theorem dX10_shown_21 : decode cX10_shown 21 = .ok (.ldc 141, 2) := dd_get dm_X10_shown_0 11 rfl
theorem dX10_shown_23 : decode cX10_shown 23 = .ok (.ireturn, 1) := dd_get dm_X10_shown_0 12 rfl
theorem dX10_shown_24 : decode cX10_shown 24 = .ok (.iload_n 2, 1) := dd_get dm_X10_shown_0 13 rfl
theorem dX10_shown_25 : decode cX10_shown 25 = .ok (.ifCond .ne 12, 3) := dd_get dm_X10_shown_0 14 rfl
theorem dX10_shown_28 : decode cX10_shown 28 = .ok (.aload_n 0, 1) := dd_get dm_X10_shown_0 15 rfl
theorem dX10_shown_29 : decode cX10_shown 29 = .ok (.getfield 54, 3) := dd_get dm_X10_shown_0 16 rfl
theorem dX10_shown_32 : decode cX10_shown 32 = .ok (.iload_n 1, 1) := dd_get dm_X10_shown_0 17 rfl
theorem dX10_shown_33 : decode cX10_shown 33 = .ok (.iaload, 1) := dd_get dm_X10_shown_0 18 rfl
theorem dX10_shown_34 : decode cX10_shown 34 = .ok (.goto 23, 3) := dd_get dm_X10_shown_0 19 rfl
theorem dX10_shown_37 : decode cX10_shown 37 = .ok (.iload_n 2, 1) := dd_get dm_X10_shown_0 20 rfl
theorem dX10_shown_38 : decode cX10_shown 38 = .ok (.iconst 1, 1) := dd_get dm_X10_shown_0 21 rfl
theorem dX10_shown_39 : decode cX10_shown 39 = .ok (.if_icmp .ne 12, 3) := dd_get dm_X10_shown_0 22 rfl
theorem dX10_shown_42 : decode cX10_shown 42 = .ok (.aload_n 0, 1) := dd_get dm_X10_shown_0 23 rfl
theorem dX10_shown_43 : decode cX10_shown 43 = .ok (.getfield 57, 3) := dd_get dm_X10_shown_0 24 rfl
theorem dX10_shown_46 : decode cX10_shown 46 = .ok (.iload_n 1, 1) := dd_get dm_X10_shown_0 25 rfl
theorem dX10_shown_47 : decode cX10_shown 47 = .ok (.iaload, 1) := dd_get dm_X10_shown_0 26 rfl
theorem dX10_shown_48 : decode cX10_shown 48 = .ok (.goto 9, 3) := dd_get dm_X10_shown_0 27 rfl
theorem dX10_shown_51 : decode cX10_shown 51 = .ok (.aload_n 0, 1) := dd_get dm_X10_shown_0 28 rfl
theorem dX10_shown_52 : decode cX10_shown 52 = .ok (.getfield 60, 3) := dd_get dm_X10_shown_0 29 rfl
theorem dX10_shown_55 : decode cX10_shown 55 = .ok (.iload_n 1, 1) := dd_get dm_X10_shown_0 30 rfl
theorem dX10_shown_56 : decode cX10_shown 56 = .ok (.iaload, 1) := dd_get dm_X10_shown_0 31 rfl
theorem dX10_shown_57 : decode cX10_shown 57 = .ok (.ireturn, 1) := dd_get dm_X10_shown_0 32 rfl
theorem dm_X10_check_0 : (([(0, .iload_n 1, 1), (1, .ifCond .ge 6, 3), (4, .bipush (-2), 2), (6, .ireturn, 1), (7, .aload_n 0, 1), (8, .invokevirtual 142, 3), (11, .iconst 3, 1), (12, .if_icmp .ge 6, 3), (15, .bipush (-4), 2), (17, .ireturn, 1), (18, .aload_n 0, 1), (19, .iconst 0, 1), (20, .putfield 240, 3), (23, .aload_n 0, 1), (24, .invokevirtual 231, 3), (27, .aload_n 0, 1), (28, .invokevirtual 264, 3), (31, .iconst 0, 1), (32, .istore_n 2, 1), (33, .aload_n 0, 1), (34, .getfield 240, 3), (37, .ifCond .le 75, 3), (40, .iload_n 2, 1), (41, .aload_n 0, 1), (42, .getfield 146, 3), (45, .if_icmp .ge 67, 3), (48, .aload_n 0, 1), (49, .invokevirtual 274, 3), (52, .aload_n 0, 1), (53, .aload_n 0, 1), (54, .getfield 54, 3), (57, .iload_n 2, 1), (58, .iaload, 1), (59, .aload_n 0, 1), (60, .getfield 57, 3), (63, .iload_n 2, 1), (64, .iaload, 1), (65, .aload_n 0, 1), (66, .getfield 60, 3), (69, .iload_n 2, 1), (70, .iaload, 1), (71, .iload_n 1, 1), (72, .invokevirtual 270, 3), (75, .ifCond .ne 5, 3), (78, .iload_n 2, 1), (79, .ireturn, 1), (80, .aload_n 0, 1), (81, .getfield 54, 3), (84, .iload_n 2, 1), (85, .iaload, 1), (86, .iconst 1, 1), (87, .if_icmp .ne 19, 3), (90, .aload_n 0, 1), (91, .aload_n 0, 1), (92, .getfield 57, 3), (95, .iload_n 2, 1), (96, .iaload, 1), (97, .aload_n 0, 1), (98, .getfield 60, 3), (101, .iload_n 2, 1)] : List (Nat × Instr × Nat)).all fun q => decide (decode cX10_check q.1 = .ok (q.2.1, q.2.2))) = true := by decide +kernel
theorem dX10_check_0 : decode cX10_check 0 = .ok (.iload_n 1, 1) := dd_get dm_X10_check_0 0 rfl
theorem dX10_check_1 : decode cX10_check 1 = .ok (.ifCond .ge 6, 3) := dd_get dm_X10_check_0 1 rfl
theorem dX10_check_4 : decode cX10_check 4 = .ok (.bipush (-2), 2) := dd_get dm_X10_check_0 2 rfl
theorem dX10_check_6 : decode cX10_check 6 = .ok (.ireturn, 1) := dd_get dm_X10_check_0 3 rfl
theorem dX10_check_7 : decode cX10_check 7 = .ok (.aload_n 0, 1) := dd_get dm_X10_check_0 4 rfl
theorem dX10_check_8 : decode cX10_check 8 = .ok (.invokevirtual 142, 3) := dd_get dm_X10_check_0 5 rfl
theorem dX10_check_11 : decode cX10_check 11 = .ok (.iconst 3, 1) := dd_get dm_X10_check_0 6 rfl
theorem dX10_check_12 : decode cX10_check 12 = .ok (.if_icmp .ge 6, 3) := dd_get dm_X10_check_0 7 rfl
theorem dX10_check_15 : decode cX10_check 15 = .ok (.bipush (-4), 2) := dd_get dm_X10_check_0 8 rfl
theorem dX10_check_17 : decode cX10_check 17 = .ok (.ireturn, 1) := dd_get dm_X10_check_0 9 rfl
theorem dX10_check_18 : decode cX10_check 18 = .ok (.aload_n 0, 1) := dd_get dm_X10_check_0 10 rfl
theorem dX10_check_19 : decode cX10_check 19 = .ok (.iconst 0, 1) := dd_get dm_X10_check_0 11 rfl
theorem dX10_check_20 : decode cX10_check 20 = .ok (.putfield 240, 3) := dd_get dm_X10_check_0 12 rfl
theorem dX10_check_23 : decode cX10_check 23 = .ok (.aload_n 0, 1) := dd_get dm_X10_check_0 13 rfl
theorem dX10_check_24 : decode cX10_check 24 = .ok (.invokevirtual 231, 3) := dd_get dm_X10_check_0 14 rfl
theorem dX10_check_27 : decode cX10_check 27 = .ok (.aload_n 0, 1) := dd_get dm_X10_check_0 15 rfl
theorem dX10_check_28 : decode cX10_check 28 = .ok (.invokevirtual 264, 3) := dd_get dm_X10_check_0 16 rfl
theorem dX10_check_31 : decode cX10_check 31 = .ok (.iconst 0, 1) := dd_get dm_X10_check_0 17 rfl
theorem dX10_check_32 : decode cX10_check 32 = .ok (.istore_n 2, 1) := dd_get dm_X10_check_0 18 rfl
theorem dX10_check_33 : decode cX10_check 33 = .ok (.aload_n 0, 1) := dd_get dm_X10_check_0 19 rfl
theorem dX10_check_34 : decode cX10_check 34 = .ok (.getfield 240, 3) := dd_get dm_X10_check_0 20 rfl
theorem dX10_check_37 : decode cX10_check 37 = .ok (.ifCond .le 75, 3) := dd_get dm_X10_check_0 21 rfl
theorem dX10_check_40 : decode cX10_check 40 = .ok (.iload_n 2, 1) := dd_get dm_X10_check_0 22 rfl
theorem dX10_check_41 : decode cX10_check 41 = .ok (.aload_n 0, 1) := dd_get dm_X10_check_0 23 rfl
theorem dX10_check_42 : decode cX10_check 42 = .ok (.getfield 146, 3) := dd_get dm_X10_check_0 24 rfl
theorem dX10_check_45 : decode cX10_check 45 = .ok (.if_icmp .ge 67, 3) := dd_get dm_X10_check_0 25 rfl
theorem dX10_check_48 : decode cX10_check 48 = .ok (.aload_n 0, 1) := dd_get dm_X10_check_0 26 rfl
theorem dX10_check_49 : decode cX10_check 49 = .ok (.invokevirtual 274, 3) := dd_get dm_X10_check_0 27 rfl
theorem dX10_check_52 : decode cX10_check 52 = .ok (.aload_n 0, 1) := dd_get dm_X10_check_0 28 rfl
theorem dX10_check_53 : decode cX10_check 53 = .ok (.aload_n 0, 1) := dd_get dm_X10_check_0 29 rfl
theorem dX10_check_54 : decode cX10_check 54 = .ok (.getfield 54, 3) := dd_get dm_X10_check_0 30 rfl
theorem dX10_check_57 : decode cX10_check 57 = .ok (.iload_n 2, 1) := dd_get dm_X10_check_0 31 rfl
theorem dX10_check_58 : decode cX10_check 58 = .ok (.iaload, 1) := dd_get dm_X10_check_0 32 rfl
theorem dX10_check_59 : decode cX10_check 59 = .ok (.aload_n 0, 1) := dd_get dm_X10_check_0 33 rfl
theorem dX10_check_60 : decode cX10_check 60 = .ok (.getfield 57, 3) := dd_get dm_X10_check_0 34 rfl
theorem dX10_check_63 : decode cX10_check 63 = .ok (.iload_n 2, 1) := dd_get dm_X10_check_0 35 rfl
theorem dX10_check_64 : decode cX10_check 64 = .ok (.iaload, 1) := dd_get dm_X10_check_0 36 rfl
theorem dX10_check_65 : decode cX10_check 65 = .ok (.aload_n 0, 1) := dd_get dm_X10_check_0 37 rfl
theorem dX10_check_66 : decode cX10_check 66 = .ok (.getfield 60, 3) := dd_get dm_X10_check_0 38 rfl
theorem dX10_check_69 : decode cX10_check 69 = .ok (.iload_n 2, 1) := dd_get dm_X10_check_0 39 rfl
theorem dX10_check_70 : decode cX10_check 70 = .ok (.iaload, 1) := dd_get dm_X10_check_0 40 rfl
theorem dX10_check_71 : decode cX10_check 71 = .ok (.iload_n 1, 1) := dd_get dm_X10_check_0 41 rfl
theorem dX10_check_72 : decode cX10_check 72 = .ok (.invokevirtual 270, 3) := dd_get dm_X10_check_0 42 rfl
theorem dX10_check_75 : decode cX10_check 75 = .ok (.ifCond .ne 5, 3) := dd_get dm_X10_check_0 43 rfl
theorem dX10_check_78 : decode cX10_check 78 = .ok (.iload_n 2, 1) := dd_get dm_X10_check_0 44 rfl
theorem dX10_check_79 : decode cX10_check 79 = .ok (.ireturn, 1) := dd_get dm_X10_check_0 45 rfl
theorem dX10_check_80 : decode cX10_check 80 = .ok (.aload_n 0, 1) := dd_get dm_X10_check_0 46 rfl
theorem dX10_check_81 : decode cX10_check 81 = .ok (.getfield 54, 3) := dd_get dm_X10_check_0 47 rfl
theorem dX10_check_84 : decode cX10_check 84 = .ok (.iload_n 2, 1) := dd_get dm_X10_check_0 48 rfl
theorem dX10_check_85 : decode cX10_check 85 = .ok (.iaload, 1) := dd_get dm_X10_check_0 49 rfl
theorem dX10_check_86 : decode cX10_check 86 = .ok (.iconst 1, 1) := dd_get dm_X10_check_0 50 rfl
theorem dX10_check_87 : decode cX10_check 87 = .ok (.if_icmp .ne 19, 3) := dd_get dm_X10_check_0 51 rfl
theorem dX10_check_90 : decode cX10_check 90 = .ok (.aload_n 0, 1) := dd_get dm_X10_check_0 52 rfl
theorem dX10_check_91 : decode cX10_check 91 = .ok (.aload_n 0, 1) := dd_get dm_X10_check_0 53 rfl
theorem dX10_check_92 : decode cX10_check 92 = .ok (.getfield 57, 3) := dd_get dm_X10_check_0 54 rfl
theorem dX10_check_95 : decode cX10_check 95 = .ok (.iload_n 2, 1) := dd_get dm_X10_check_0 55 rfl
theorem dX10_check_96 : decode cX10_check 96 = .ok (.iaload, 1) := dd_get dm_X10_check_0 56 rfl
theorem dX10_check_97 : decode cX10_check 97 = .ok (.aload_n 0, 1) := dd_get dm_X10_check_0 57 rfl
theorem dX10_check_98 : decode cX10_check 98 = .ok (.getfield 60, 3) := dd_get dm_X10_check_0 58 rfl
theorem dX10_check_101 : decode cX10_check 101 = .ok (.iload_n 2, 1) := dd_get dm_X10_check_0 59 rfl
theorem dm_X10_check_1 : (([(102, .iaload, 1), (103, .invokevirtual 286, 3), (106, .iinc 2 1, 3), (109, .goto (-76), 3), (112, .aload_n 0, 1), (113, .getfield 240, 3), (116, .ifCond .gt 11, 3), (119, .iload_n 2, 1), (120, .aload_n 0, 1), (121, .getfield 146, 3), (124, .if_icmp .ge 7, 3), (127, .iload_n 2, 1), (128, .goto 4, 3), (131, .iconst (-1), 1), (132, .ireturn, 1)] : List (Nat × Instr × Nat)).all fun q => decide (decode cX10_check q.1 = .ok (q.2.1, q.2.2))) = true := by decide +kernel
theorem dX10_check_102 : decode cX10_check 102 = .ok (.iaload, 1) := dd_get dm_X10_check_1 0 rfl
theorem dX10_check_103 : decode cX10_check 103 = .ok (.invokevirtual 286, 3) := dd_get dm_X10_check_1 1 rfl
theorem dX10_check_106 : decode cX10_check 106 = .ok (.iinc 2 1, 3) := dd_get dm_X10_check_1 2 rfl
theorem dX10_check_109 : decode cX10_check 109 = .ok (.goto (-76), 3) := dd_get dm_X10_check_1 3 rfl
theorem dX10_check_112 : decode cX10_check 112 = .ok (.aload_n 0, 1) := dd_get dm_X10_check_1 4 rfl
theorem dX10_check_113 : decode cX10_check 113 = .ok (.getfield 240, 3) := dd_get dm_X10_check_1 5 rfl
theorem dX10_check_116 : decode cX10_check 116 = .ok (.ifCond .gt 11, 3) := dd_get dm_X10_check_1 6 rfl
theorem dX10_check_119 : decode cX10_check 119 = .ok (.iload_n 2, 1) := dd_get dm_X10_check_1 7 rfl
theorem dX10_check_120 : decode cX10_check 120 = .ok (.aload_n 0, 1) := dd_get dm_X10_check_1 8 rfl
theorem dX10_check_121 : decode cX10_check 121 = .ok (.getfield 146, 3) := dd_get dm_X10_check_1 9 rfl
theorem dX10_check_124 : decode cX10_check 124 = .ok (.if_icmp .ge 7, 3) := dd_get dm_X10_check_1 10 rfl
theorem dX10_check_127 : decode cX10_check 127 = .ok (.iload_n 2, 1) := dd_get dm_X10_check_1 11 rfl
theorem dX10_check_128 : decode cX10_check 128 = .ok (.goto 4, 3) := dd_get dm_X10_check_1 12 rfl
theorem dX10_check_131 : decode cX10_check 131 = .ok (.iconst (-1), 1) := dd_get dm_X10_check_1 13 rfl
theorem dX10_check_132 : decode cX10_check 132 = .ok (.ireturn, 1) := dd_get dm_X10_check_1 14 rfl
theorem dm_J6_bitCount_0f7a4_0 : (([(0, .iload_n 0, 1), (1, .iload_n 0, 1), (2, .iconst 1, 1), (3, .iushr, 1), (4, .ldc_w 265, 3), (7, .iand, 1), (8, .isub, 1), (9, .istore_n 0, 1), (10, .iload_n 0, 1), (11, .ldc_w 266, 3), (14, .iand, 1), (15, .iload_n 0, 1), (16, .iconst 2, 1), (17, .iushr, 1), (18, .ldc_w 266, 3), (21, .iand, 1), (22, .iadd, 1), (23, .istore_n 0, 1), (24, .iload_n 0, 1), (25, .iload_n 0, 1), (26, .iconst 4, 1), (27, .iushr, 1), (28, .iadd, 1), (29, .ldc_w 267, 3), (32, .iand, 1), (33, .istore_n 0, 1), (34, .iload_n 0, 1), (35, .iload_n 0, 1), (36, .bipush 8, 2), (38, .iushr, 1), (39, .iadd, 1), (40, .istore_n 0, 1), (41, .iload_n 0, 1), (42, .iload_n 0, 1), (43, .bipush 16, 2), (45, .iushr, 1), (46, .iadd, 1), (47, .istore_n 0, 1), (48, .iload_n 0, 1), (49, .bipush 63, 2), (51, .iand, 1), (52, .ireturn, 1)] : List (Nat × Instr × Nat)).all fun q => decide (decode cJ6_bitCount_0f7a4 q.1 = .ok (q.2.1, q.2.2))) = true := by decide +kernel
theorem dJ6_bitCount_0f7a4_0 : decode cJ6_bitCount_0f7a4 0 = .ok (.iload_n 0, 1) := dd_get dm_J6_bitCount_0f7a4_0 0 rfl
theorem dJ6_bitCount_0f7a4_1 : decode cJ6_bitCount_0f7a4 1 = .ok (.iload_n 0, 1) := dd_get dm_J6_bitCount_0f7a4_0 1 rfl
theorem dJ6_bitCount_0f7a4_2 : decode cJ6_bitCount_0f7a4 2 = .ok (.iconst 1, 1) := dd_get dm_J6_bitCount_0f7a4_0 2 rfl
theorem dJ6_bitCount_0f7a4_3 : decode cJ6_bitCount_0f7a4 3 = .ok (.iushr, 1) := dd_get dm_J6_bitCount_0f7a4_0 3 rfl
theorem dJ6_bitCount_0f7a4_4 : decode cJ6_bitCount_0f7a4 4 = .ok (.ldc_w 265, 3) := dd_get dm_J6_bitCount_0f7a4_0 4 rfl
theorem dJ6_bitCount_0f7a4_7 : decode cJ6_bitCount_0f7a4 7 = .ok (.iand, 1) := dd_get dm_J6_bitCount_0f7a4_0 5 rfl
theorem dJ6_bitCount_0f7a4_8 : decode cJ6_bitCount_0f7a4 8 = .ok (.isub, 1) := dd_get dm_J6_bitCount_0f7a4_0 6 rfl
theorem dJ6_bitCount_0f7a4_9 : decode cJ6_bitCount_0f7a4 9 = .ok (.istore_n 0, 1) := dd_get dm_J6_bitCount_0f7a4_0 7 rfl
theorem dJ6_bitCount_0f7a4_10 : decode cJ6_bitCount_0f7a4 10 = .ok (.iload_n 0, 1) := dd_get dm_J6_bitCount_0f7a4_0 8 rfl
theorem dJ6_bitCount_0f7a4_11 : decode cJ6_bitCount_0f7a4 11 = .ok (.ldc_w 266, 3) := dd_get dm_J6_bitCount_0f7a4_0 9 rfl
theorem dJ6_bitCount_0f7a4_14 : decode cJ6_bitCount_0f7a4 14 = .ok (.iand, 1) := dd_get dm_J6_bitCount_0f7a4_0 10 rfl
theorem dJ6_bitCount_0f7a4_15 : decode cJ6_bitCount_0f7a4 15 = .ok (.iload_n 0, 1) := dd_get dm_J6_bitCount_0f7a4_0 11 rfl
theorem dJ6_bitCount_0f7a4_16 : decode cJ6_bitCount_0f7a4 16 = .ok (.iconst 2, 1) := dd_get dm_J6_bitCount_0f7a4_0 12 rfl
theorem dJ6_bitCount_0f7a4_17 : decode cJ6_bitCount_0f7a4 17 = .ok (.iushr, 1) := dd_get dm_J6_bitCount_0f7a4_0 13 rfl
theorem dJ6_bitCount_0f7a4_18 : decode cJ6_bitCount_0f7a4 18 = .ok (.ldc_w 266, 3) := dd_get dm_J6_bitCount_0f7a4_0 14 rfl
theorem dJ6_bitCount_0f7a4_21 : decode cJ6_bitCount_0f7a4 21 = .ok (.iand, 1) := dd_get dm_J6_bitCount_0f7a4_0 15 rfl
theorem dJ6_bitCount_0f7a4_22 : decode cJ6_bitCount_0f7a4 22 = .ok (.iadd, 1) := dd_get dm_J6_bitCount_0f7a4_0 16 rfl
theorem dJ6_bitCount_0f7a4_23 : decode cJ6_bitCount_0f7a4 23 = .ok (.istore_n 0, 1) := dd_get dm_J6_bitCount_0f7a4_0 17 rfl
theorem dJ6_bitCount_0f7a4_24 : decode cJ6_bitCount_0f7a4 24 = .ok (.iload_n 0, 1) := dd_get dm_J6_bitCount_0f7a4_0 18 rfl
theorem dJ6_bitCount_0f7a4_25 : decode cJ6_bitCount_0f7a4 25 = .ok (.iload_n 0, 1) := dd_get dm_J6_bitCount_0f7a4_0 19 rfl
theorem dJ6_bitCount_0f7a4_26 : decode cJ6_bitCount_0f7a4 26 = .ok (.iconst 4, 1) := dd_get dm_J6_bitCount_0f7a4_0 20 rfl
theorem dJ6_bitCount_0f7a4_27 : decode cJ6_bitCount_0f7a4 27 = .ok (.iushr, 1) := dd_get dm_J6_bitCount_0f7a4_0 21 rfl
theorem dJ6_bitCount_0f7a4_28 : decode cJ6_bitCount_0f7a4 28 = .ok (.iadd, 1) := dd_get dm_J6_bitCount_0f7a4_0 22 rfl
theorem dJ6_bitCount_0f7a4_29 : decode cJ6_bitCount_0f7a4 29 = .ok (.ldc_w 267, 3) := dd_get dm_J6_bitCount_0f7a4_0 23 rfl
theorem dJ6_bitCount_0f7a4_32 : decode cJ6_bitCount_0f7a4 32 = .ok (.iand, 1) := dd_get dm_J6_bitCount_0f7a4_0 24 rfl
theorem dJ6_bitCount_0f7a4_33 : decode cJ6_bitCount_0f7a4 33 = .ok (.istore_n 0, 1) := dd_get dm_J6_bitCount_0f7a4_0 25 rfl
theorem dJ6_bitCount_0f7a4_34 : decode cJ6_bitCount_0f7a4 34 = .ok (.iload_n 0, 1) := dd_get dm_J6_bitCount_0f7a4_0 26 rfl
theorem dJ6_bitCount_0f7a4_35 : decode cJ6_bitCount_0f7a4 35 = .ok (.iload_n 0, 1) := dd_get dm_J6_bitCount_0f7a4_0 27 rfl
theorem dJ6_bitCount_0f7a4_36 : decode cJ6_bitCount_0f7a4 36 = .ok (.bipush 8, 2) := dd_get dm_J6_bitCount_0f7a4_0 28 rfl
theorem dJ6_bitCount_0f7a4_38 : decode cJ6_bitCount_0f7a4 38 = .ok (.iushr, 1) := dd_get dm_J6_bitCount_0f7a4_0 29 rfl
theorem dJ6_bitCount_0f7a4_39 : decode cJ6_bitCount_0f7a4 39 = .ok (.iadd, 1) := dd_get dm_J6_bitCount_0f7a4_0 30 rfl
theorem dJ6_bitCount_0f7a4_40 : decode cJ6_bitCount_0f7a4 40 = .ok (.istore_n 0, 1) := dd_get dm_J6_bitCount_0f7a4_0 31 rfl
theorem dJ6_bitCount_0f7a4_41 : decode cJ6_bitCount_0f7a4 41 = .ok (.iload_n 0, 1) := dd_get dm_J6_bitCount_0f7a4_0 32 rfl
theorem dJ6_bitCount_0f7a4_42 : decode cJ6_bitCount_0f7a4 42 = .ok (.iload_n 0, 1) := dd_get dm_J6_bitCount_0f7a4_0 33 rfl
theorem dJ6_bitCount_0f7a4_43 : decode cJ6_bitCount_0f7a4 43 = .ok (.bipush 16, 2) := dd_get dm_J6_bitCount_0f7a4_0 34 rfl
theorem dJ6_bitCount_0f7a4_45 : decode cJ6_bitCount_0f7a4 45 = .ok (.iushr, 1) := dd_get dm_J6_bitCount_0f7a4_0 35 rfl
theorem dJ6_bitCount_0f7a4_46 : decode cJ6_bitCount_0f7a4 46 = .ok (.iadd, 1) := dd_get dm_J6_bitCount_0f7a4_0 36 rfl
theorem dJ6_bitCount_0f7a4_47 : decode cJ6_bitCount_0f7a4 47 = .ok (.istore_n 0, 1) := dd_get dm_J6_bitCount_0f7a4_0 37 rfl
theorem dJ6_bitCount_0f7a4_48 : decode cJ6_bitCount_0f7a4 48 = .ok (.iload_n 0, 1) := dd_get dm_J6_bitCount_0f7a4_0 38 rfl
theorem dJ6_bitCount_0f7a4_49 : decode cJ6_bitCount_0f7a4 49 = .ok (.bipush 63, 2) := dd_get dm_J6_bitCount_0f7a4_0 39 rfl
theorem dJ6_bitCount_0f7a4_51 : decode cJ6_bitCount_0f7a4 51 = .ok (.iand, 1) := dd_get dm_J6_bitCount_0f7a4_0 40 rfl
theorem dJ6_bitCount_0f7a4_52 : decode cJ6_bitCount_0f7a4 52 = .ok (.ireturn, 1) := dd_get dm_J6_bitCount_0f7a4_0 41 rfl
theorem dm_J7_fill_d0a16_0 : (([(0, .iconst 0, 1), (1, .istore_n 3, 1), (2, .aload_n 0, 1), (3, .arraylength, 1), (4, .istore 4, 2), (6, .iload_n 3, 1), (7, .iload 4, 2), (9, .if_icmp .ge 13, 3), (12, .aload_n 0, 1), (13, .iload_n 3, 1), (14, .lload_n 1, 1), (15, .lastore, 1), (16, .iinc 3 1, 3), (19, .goto (-13), 3), (22, .return_, 1)] : List (Nat × Instr × Nat)).all fun q => decide (decode cJ7_fill_d0a16 q.1 = .ok (q.2.1, q.2.2))) = true := by decide +kernel
theorem dJ7_fill_d0a16_0 : decode cJ7_fill_d0a16 0 = .ok (.iconst 0, 1) := dd_get dm_J7_fill_d0a16_0 0 rfl
theorem dJ7_fill_d0a16_1 : decode cJ7_fill_d0a16 1 = .ok (.istore_n 3, 1) := dd_get dm_J7_fill_d0a16_0 1 rfl
theorem dJ7_fill_d0a16_2 : decode cJ7_fill_d0a16 2 = .ok (.aload_n 0, 1) := dd_get dm_J7_fill_d0a16_0 2 rfl
theorem dJ7_fill_d0a16_3 : decode cJ7_fill_d0a16 3 = .ok (.arraylength, 1) := dd_get dm_J7_fill_d0a16_0 3 rfl
theorem dJ7_fill_d0a16_4 : decode cJ7_fill_d0a16 4 = .ok (.istore 4, 2) := dd_get dm_J7_fill_d0a16_0 4 rfl
theorem dJ7_fill_d0a16_6 : decode cJ7_fill_d0a16 6 = .ok (.iload_n 3, 1) := dd_get dm_J7_fill_d0a16_0 5 rfl
theorem dJ7_fill_d0a16_7 : decode cJ7_fill_d0a16 7 = .ok (.iload 4, 2) := dd_get dm_J7_fill_d0a16_0 6 rfl
theorem dJ7_fill_d0a16_9 : decode cJ7_fill_d0a16 9 = .ok (.if_icmp .ge 13, 3) := dd_get dm_J7_fill_d0a16_0 7 rfl
theorem dJ7_fill_d0a16_12 : decode cJ7_fill_d0a16 12 = .ok (.aload_n 0, 1) := dd_get dm_J7_fill_d0a16_0 8 rfl
theorem dJ7_fill_d0a16_13 : decode cJ7_fill_d0a16 13 = .ok (.iload_n 3, 1) := dd_get dm_J7_fill_d0a16_0 9 rfl
theorem dJ7_fill_d0a16_14 : decode cJ7_fill_d0a16 14 = .ok (.lload_n 1, 1) := dd_get dm_J7_fill_d0a16_0 10 rfl
theorem dJ7_fill_d0a16_15 : decode cJ7_fill_d0a16 15 = .ok (.lastore, 1) := dd_get dm_J7_fill_d0a16_0 11 rfl
theorem dJ7_fill_d0a16_16 : decode cJ7_fill_d0a16 16 = .ok (.iinc 3 1, 3) := dd_get dm_J7_fill_d0a16_0 12 rfl
theorem dJ7_fill_d0a16_19 : decode cJ7_fill_d0a16 19 = .ok (.goto (-13), 3) := dd_get dm_J7_fill_d0a16_0 13 rfl
theorem dJ7_fill_d0a16_22 : decode cJ7_fill_d0a16 22 = .ok (.return_, 1) := dd_get dm_J7_fill_d0a16_0 14 rfl
theorem dm_J7_fill_53178_0 : (([(0, .iconst 0, 1), (1, .istore_n 2, 1), (2, .aload_n 0, 1), (3, .arraylength, 1), (4, .istore_n 3, 1), (5, .iload_n 2, 1), (6, .iload_n 3, 1), (7, .if_icmp .ge 13, 3), (10, .aload_n 0, 1), (11, .iload_n 2, 1), (12, .iload_n 1, 1), (13, .iastore, 1), (14, .iinc 2 1, 3), (17, .goto (-12), 3), (20, .return_, 1)] : List (Nat × Instr × Nat)).all fun q => decide (decode cJ7_fill_53178 q.1 = .ok (q.2.1, q.2.2))) = true := by decide +kernel
theorem dJ7_fill_53178_0 : decode cJ7_fill_53178 0 = .ok (.iconst 0, 1) := dd_get dm_J7_fill_53178_0 0 rfl
theorem dJ7_fill_53178_1 : decode cJ7_fill_53178 1 = .ok (.istore_n 2, 1) := dd_get dm_J7_fill_53178_0 1 rfl
theorem dJ7_fill_53178_2 : decode cJ7_fill_53178 2 = .ok (.aload_n 0, 1) := dd_get dm_J7_fill_53178_0 2 rfl
theorem dJ7_fill_53178_3 : decode cJ7_fill_53178 3 = .ok (.arraylength, 1) := dd_get dm_J7_fill_53178_0 3 rfl
theorem dJ7_fill_53178_4 : decode cJ7_fill_53178 4 = .ok (.istore_n 3, 1) := dd_get dm_J7_fill_53178_0 4 rfl
theorem dJ7_fill_53178_5 : decode cJ7_fill_53178 5 = .ok (.iload_n 2, 1) := dd_get dm_J7_fill_53178_0 5 rfl
theorem dJ7_fill_53178_6 : decode cJ7_fill_53178 6 = .ok (.iload_n 3, 1) := dd_get dm_J7_fill_53178_0 6 rfl
theorem dJ7_fill_53178_7 : decode cJ7_fill_53178 7 = .ok (.if_icmp .ge 13, 3) := dd_get dm_J7_fill_53178_0 7 rfl
theorem dJ7_fill_53178_10 : decode cJ7_fill_53178 10 = .ok (.aload_n 0, 1) := dd_get dm_J7_fill_53178_0 8 rfl
theorem dJ7_fill_53178_11 : decode cJ7_fill_53178 11 = .ok (.iload_n 2, 1) := dd_get dm_J7_fill_53178_0 9 rfl
theorem dJ7_fill_53178_12 : decode cJ7_fill_53178 12 = .ok (.iload_n 1, 1) := dd_get dm_J7_fill_53178_0 10 rfl
theorem dJ7_fill_53178_13 : decode cJ7_fill_53178 13 = .ok (.iastore, 1) := dd_get dm_J7_fill_53178_0 11 rfl
theorem dJ7_fill_53178_14 : decode cJ7_fill_53178 14 = .ok (.iinc 2 1, 3) := dd_get dm_J7_fill_53178_0 12 rfl
theorem dJ7_fill_53178_17 : decode cJ7_fill_53178 17 = .ok (.goto (-12), 3) := dd_get dm_J7_fill_53178_0 13 rfl
theorem dJ7_fill_53178_20 : decode cJ7_fill_53178 20 = .ok (.return_, 1) := dd_get dm_J7_fill_53178_0 14 rfl
