theorem dm_X9_cell_0 : (([(0, .aload_n 0, 1), (1, .getfield 12, 3), (4, .iload_n 1, 1), (5, .invokevirtual 119, 3), (8, .ifCond .ne 5, 3), (11, .iconst (-1), 1), (12, .ireturn, 1), (13, .aload_n 0, 1), (14, .getfield 12, 3), (17, .iload_n 1, 1), (18, .invokevirtual 126, 3), (21, .ifCond .eq 6, 3), (24, .bipush (-3), 2), (26, .ireturn, 1), (27, .aload_n 0, 1), (28, .getfield 12, 3), (31, .iload_n 1, 1), (32, .iload_n 2, 1), (33, .invokevirtual 129, 3), (36, .ifCond .ne 5, 3), (39, .iconst (-1), 1), (40, .ireturn, 1), (41, .aload_n 0, 1), (42, .getfield 12, 3), (45, .iload_n 1, 1), (46, .iload_n 2, 1), (47, .lload_n 3, 1), (48, .invokevirtual 133, 3), (51, .iconst 1, 1), (52, .ireturn, 1)] : List (Nat × Instr × Nat)).all fun q => decide (decode cX9_cell q.1 = .ok (q.2.1, q.2.2))) = true := by decide +kernel
theorem dX9_cell_0 : decode cX9_cell 0 = .ok (.aload_n 0, 1) := dd_get dm_X9_cell_0 0 rfl
theorem dX9_cell_1 : decode cX9_cell 1 = .ok (.getfield 12, 3) := dd_get dm_X9_cell_0 1 rfl
theorem dX9_cell_4 : decode cX9_cell 4 = .ok (.iload_n 1, 1) := dd_get dm_X9_cell_0 2 rfl
theorem dX9_cell_5 : decode cX9_cell 5 = .ok (.invokevirtual 119, 3) := dd_get dm_X9_cell_0 3 rfl
theorem dX9_cell_8 : decode cX9_cell 8 = .ok (.ifCond .ne 5, 3) := dd_get dm_X9_cell_0 4 rfl
theorem dX9_cell_11 : decode cX9_cell 11 = .ok (.iconst (-1), 1) := dd_get dm_X9_cell_0 5 rfl
theorem dX9_cell_12 : decode cX9_cell 12 = .ok (.ireturn, 1) := dd_get dm_X9_cell_0 6 rfl
theorem dX9_cell_13 : decode cX9_cell 13 = .ok (.aload_n 0, 1) := dd_get dm_X9_cell_0 7 rfl
theorem dX9_cell_14 : decode cX9_cell 14 = .ok (.getfield 12, 3) := dd_get dm_X9_cell_0 8 rfl
theorem dX9_cell_17 : decode cX9_cell 17 = .ok (.iload_n 1, 1) := dd_get dm_X9_cell_0 9 rfl
theorem dX9_cell_18 : decode cX9_cell 18 = .ok (.invokevirtual 126, 3) := dd_get dm_X9_cell_0 10 rfl
theorem dX9_cell_21 : decode cX9_cell 21 = .ok (.ifCond .eq 6, 3) := dd_get dm_X9_cell_0 11 rfl
theorem dX9_cell_24 : decode cX9_cell 24 = .ok (.bipush (-3), 2) := dd_get dm_X9_cell_0 12 rfl
theorem dX9_cell_26 : decode cX9_cell 26 = .ok (.ireturn, 1) := dd_get dm_X9_cell_0 13 rfl
theorem dX9_cell_27 : decode cX9_cell 27 = .ok (.aload_n 0, 1) := dd_get dm_X9_cell_0 14 rfl
theorem dX9_cell_28 : decode cX9_cell 28 = .ok (.getfield 12, 3) := dd_get dm_X9_cell_0 15 rfl
theorem dX9_cell_31 : decode cX9_cell 31 = .ok (.iload_n 1, 1) := dd_get dm_X9_cell_0 16 rfl
theorem dX9_cell_32 : decode cX9_cell 32 = .ok (.iload_n 2, 1) := dd_get dm_X9_cell_0 17 rfl
theorem dX9_cell_33 : decode cX9_cell 33 = .ok (.invokevirtual 129, 3) := dd_get dm_X9_cell_0 18 rfl
theorem dX9_cell_36 : decode cX9_cell 36 = .ok (.ifCond .ne 5, 3) := dd_get dm_X9_cell_0 19 rfl
theorem dX9_cell_39 : decode cX9_cell 39 = .ok (.iconst (-1), 1) := dd_get dm_X9_cell_0 20 rfl
theorem dX9_cell_40 : decode cX9_cell 40 = .ok (.ireturn, 1) := dd_get dm_X9_cell_0 21 rfl
theorem dX9_cell_41 : decode cX9_cell 41 = .ok (.aload_n 0, 1) := dd_get dm_X9_cell_0 22 rfl
theorem dX9_cell_42 : decode cX9_cell 42 = .ok (.getfield 12, 3) := dd_get dm_X9_cell_0 23 rfl
theorem dX9_cell_45 : decode cX9_cell 45 = .ok (.iload_n 1, 1) := dd_get dm_X9_cell_0 24 rfl
theorem dX9_cell_46 : decode cX9_cell 46 = .ok (.iload_n 2, 1) := dd_get dm_X9_cell_0 25 rfl
theorem dX9_cell_47 : decode cX9_cell 47 = .ok (.lload_n 3, 1) := dd_get dm_X9_cell_0 26 rfl
theorem dX9_cell_48 : decode cX9_cell 48 = .ok (.invokevirtual 133, 3) := dd_get dm_X9_cell_0 27 rfl
theorem dX9_cell_51 : decode cX9_cell 51 = .ok (.iconst 1, 1) := dd_get dm_X9_cell_0 28 rfl
theorem dX9_cell_52 : decode cX9_cell 52 = .ok (.ireturn, 1) := dd_get dm_X9_cell_0 29 rfl
theorem dm_X9_told_0 : (([(0, .aload_n 0, 1), (1, .getfield 12, 3), (4, .iload_n 1, 1), (5, .invokevirtual 119, 3), (8, .ifCond .eq 15, 3), (11, .aload_n 0, 1), (12, .getfield 12, 3), (15, .iload_n 1, 1), (16, .iload_n 2, 1), (17, .invokevirtual 129, 3), (20, .ifCond .ne 7, 3), (23, .ldc2_w 137, 3), (26, .lreturn, 1), (27, .aload_n 0, 1), (28, .getfield 12, 3), (31, .getfield 139, 3), (34, .iload_n 1, 1), (35, .aaload, 1), (36, .iload_n 2, 1), (37, .laload, 1), (38, .lreturn, 1)] : List (Nat × Instr × Nat)).all fun q => decide (decode cX9_told q.1 = .ok (q.2.1, q.2.2))) = true := by decide +kernel
theorem dX9_told_0 : decode cX9_told 0 = .ok (.aload_n 0, 1) := dd_get dm_X9_told_0 0 rfl
theorem dX9_told_1 : decode cX9_told 1 = .ok (.getfield 12, 3) := dd_get dm_X9_told_0 1 rfl
theorem dX9_told_4 : decode cX9_told 4 = .ok (.iload_n 1, 1) := dd_get dm_X9_told_0 2 rfl
theorem dX9_told_5 : decode cX9_told 5 = .ok (.invokevirtual 119, 3) := dd_get dm_X9_told_0 3 rfl
theorem dX9_told_8 : decode cX9_told 8 = .ok (.ifCond .eq 15, 3) := dd_get dm_X9_told_0 4 rfl
theorem dX9_told_11 : decode cX9_told 11 = .ok (.aload_n 0, 1) := dd_get dm_X9_told_0 5 rfl
theorem dX9_told_12 : decode cX9_told 12 = .ok (.getfield 12, 3) := dd_get dm_X9_told_0 6 rfl
theorem dX9_told_15 : decode cX9_told 15 = .ok (.iload_n 1, 1) := dd_get dm_X9_told_0 7 rfl
theorem dX9_told_16 : decode cX9_told 16 = .ok (.iload_n 2, 1) := dd_get dm_X9_told_0 8 rfl
theorem dX9_told_17 : decode cX9_told 17 = .ok (.invokevirtual 129, 3) := dd_get dm_X9_told_0 9 rfl
theorem dX9_told_20 : decode cX9_told 20 = .ok (.ifCond .ne 7, 3) := dd_get dm_X9_told_0 10 rfl
theorem dX9_told_23 : decode cX9_told 23 = .ok (.ldc2_w 137, 3) := dd_get dm_X9_told_0 11 rfl
theorem dX9_told_26 : decode cX9_told 26 = .ok (.lreturn, 1) := dd_get dm_X9_told_0 12 rfl
theorem dX9_told_27 : decode cX9_told 27 = .ok (.aload_n 0, 1) := dd_get dm_X9_told_0 13 rfl
theorem dX9_told_28 : decode cX9_told 28 = .ok (.getfield 12, 3) := dd_get dm_X9_told_0 14 rfl
theorem dX9_told_31 : decode cX9_told 31 = .ok (.getfield 139, 3) := dd_get dm_X9_told_0 15 rfl
theorem dX9_told_34 : decode cX9_told 34 = .ok (.iload_n 1, 1) := dd_get dm_X9_told_0 16 rfl
theorem dX9_told_35 : decode cX9_told 35 = .ok (.aaload, 1) := dd_get dm_X9_told_0 17 rfl
theorem dX9_told_36 : decode cX9_told 36 = .ok (.iload_n 2, 1) := dd_get dm_X9_told_0 18 rfl
theorem dX9_told_37 : decode cX9_told 37 = .ok (.laload, 1) := dd_get dm_X9_told_0 19 rfl
theorem dX9_told_38 : decode cX9_told 38 = .ok (.lreturn, 1) := dd_get dm_X9_told_0 20 rfl
theorem dm_X9_lose_0 : (([(0, .aload_n 0, 1), (1, .getfield 12, 3), (4, .iload_n 1, 1), (5, .invokevirtual 119, 3), (8, .ifCond .ne 5, 3), (11, .iconst (-1), 1), (12, .ireturn, 1), (13, .aload_n 0, 1), (14, .getfield 12, 3), (17, .iload_n 1, 1), (18, .invokevirtual 126, 3), (21, .ifCond .eq 6, 3), (24, .bipush (-3), 2), (26, .ireturn, 1), (27, .aload_n 0, 1), (28, .getfield 12, 3), (31, .iload_n 1, 1), (32, .invokevirtual 143, 3), (35, .iconst 1, 1), (36, .ireturn, 1)] : List (Nat × Instr × Nat)).all fun q => decide (decode cX9_lose q.1 = .ok (q.2.1, q.2.2))) = true := by decide +kernel
theorem dX9_lose_0 : decode cX9_lose 0 = .ok (.aload_n 0, 1) := dd_get dm_X9_lose_0 0 rfl
theorem dX9_lose_1 : decode cX9_lose 1 = .ok (.getfield 12, 3) := dd_get dm_X9_lose_0 1 rfl
theorem dX9_lose_4 : decode cX9_lose 4 = .ok (.iload_n 1, 1) := dd_get dm_X9_lose_0 2 rfl
theorem dX9_lose_5 : decode cX9_lose 5 = .ok (.invokevirtual 119, 3) := dd_get dm_X9_lose_0 3 rfl
theorem dX9_lose_8 : decode cX9_lose 8 = .ok (.ifCond .ne 5, 3) := dd_get dm_X9_lose_0 4 rfl
theorem dX9_lose_11 : decode cX9_lose 11 = .ok (.iconst (-1), 1) := dd_get dm_X9_lose_0 5 rfl
theorem dX9_lose_12 : decode cX9_lose 12 = .ok (.ireturn, 1) := dd_get dm_X9_lose_0 6 rfl
theorem dX9_lose_13 : decode cX9_lose 13 = .ok (.aload_n 0, 1) := dd_get dm_X9_lose_0 7 rfl
theorem dX9_lose_14 : decode cX9_lose 14 = .ok (.getfield 12, 3) := dd_get dm_X9_lose_0 8 rfl
theorem dX9_lose_17 : decode cX9_lose 17 = .ok (.iload_n 1, 1) := dd_get dm_X9_lose_0 9 rfl
theorem dX9_lose_18 : decode cX9_lose 18 = .ok (.invokevirtual 126, 3) := dd_get dm_X9_lose_0 10 rfl
theorem dX9_lose_21 : decode cX9_lose 21 = .ok (.ifCond .eq 6, 3) := dd_get dm_X9_lose_0 11 rfl
theorem dX9_lose_24 : decode cX9_lose 24 = .ok (.bipush (-3), 2) := dd_get dm_X9_lose_0 12 rfl
theorem dX9_lose_26 : decode cX9_lose 26 = .ok (.ireturn, 1) := dd_get dm_X9_lose_0 13 rfl
theorem dX9_lose_27 : decode cX9_lose 27 = .ok (.aload_n 0, 1) := dd_get dm_X9_lose_0 14 rfl
theorem dX9_lose_28 : decode cX9_lose 28 = .ok (.getfield 12, 3) := dd_get dm_X9_lose_0 15 rfl
theorem dX9_lose_31 : decode cX9_lose 31 = .ok (.iload_n 1, 1) := dd_get dm_X9_lose_0 16 rfl
theorem dX9_lose_32 : decode cX9_lose 32 = .ok (.invokevirtual 143, 3) := dd_get dm_X9_lose_0 17 rfl
theorem dX9_lose_35 : decode cX9_lose 35 = .ok (.iconst 1, 1) := dd_get dm_X9_lose_0 18 rfl
theorem dX9_lose_36 : decode cX9_lose 36 = .ok (.ireturn, 1) := dd_get dm_X9_lose_0 19 rfl
theorem dm_X9_lay_0 : (([(0, .aload_n 0, 1), (1, .getfield 12, 3), (4, .iload_n 1, 1), (5, .invokevirtual 119, 3), (8, .ifCond .ne 5, 3), (11, .iconst (-1), 1), (12, .ireturn, 1), (13, .aload_n 0, 1), (14, .getfield 12, 3), (17, .iload_n 1, 1), (18, .invokevirtual 126, 3), (21, .ifCond .eq 6, 3), (24, .bipush (-3), 2), (26, .ireturn, 1), (27, .aload_n 0, 1), (28, .getfield 12, 3), (31, .getfield 147, 3), (34, .iload_n 1, 1), (35, .iaload, 1), (36, .iconst 1, 1), (37, .if_icmp .eq 6, 3), (40, .bipush (-5), 2), (42, .ireturn, 1), (43, .iload_n 3, 1), (44, .ifCond .lt 41, 3), (47, .iload_n 2, 1), (48, .ifCond .lt 37, 3), (51, .iload_n 3, 1), (52, .aload_n 0, 1), (53, .getfield 12, 3), (56, .getfield 150, 3), (59, .iload_n 1, 1), (60, .iaload, 1), (61, .iload_n 2, 1), (62, .isub, 1), (63, .if_icmp .gt 22, 3), (66, .iload 4, 2), (68, .ifCond .lt 17, 3), (71, .iload_n 3, 1), (72, .aload_n 0, 1), (73, .getfield 19, 3), (76, .getfield 91, 3), (79, .iload 4, 2), (81, .isub, 1), (82, .if_icmp .le 5, 3), (85, .iconst (-1), 1), (86, .ireturn, 1), (87, .iconst 0, 1), (88, .istore 5, 2), (90, .iload 5, 2), (92, .iload_n 3, 1), (93, .if_icmp .ge 35, 3), (96, .aload_n 0, 1), (97, .getfield 19, 3), (100, .iload 4, 2), (102, .iload 5, 2), (104, .iadd, 1), (105, .aload_n 0, 1), (106, .getfield 12, 3), (109, .getfield 139, 3)] : List (Nat × Instr × Nat)).all fun q => decide (decode cX9_lay q.1 = .ok (q.2.1, q.2.2))) = true := by decide +kernel
theorem dX9_lay_0 : decode cX9_lay 0 = .ok (.aload_n 0, 1) := dd_get dm_X9_lay_0 0 rfl
theorem dX9_lay_1 : decode cX9_lay 1 = .ok (.getfield 12, 3) := dd_get dm_X9_lay_0 1 rfl
theorem dX9_lay_4 : decode cX9_lay 4 = .ok (.iload_n 1, 1) := dd_get dm_X9_lay_0 2 rfl
theorem dX9_lay_5 : decode cX9_lay 5 = .ok (.invokevirtual 119, 3) := dd_get dm_X9_lay_0 3 rfl
theorem dX9_lay_8 : decode cX9_lay 8 = .ok (.ifCond .ne 5, 3) := dd_get dm_X9_lay_0 4 rfl
theorem dX9_lay_11 : decode cX9_lay 11 = .ok (.iconst (-1), 1) := dd_get dm_X9_lay_0 5 rfl
theorem dX9_lay_12 : decode cX9_lay 12 = .ok (.ireturn, 1) := dd_get dm_X9_lay_0 6 rfl
theorem dX9_lay_13 : decode cX9_lay 13 = .ok (.aload_n 0, 1) := dd_get dm_X9_lay_0 7 rfl
theorem dX9_lay_14 : decode cX9_lay 14 = .ok (.getfield 12, 3) := dd_get dm_X9_lay_0 8 rfl
theorem dX9_lay_17 : decode cX9_lay 17 = .ok (.iload_n 1, 1) := dd_get dm_X9_lay_0 9 rfl
theorem dX9_lay_18 : decode cX9_lay 18 = .ok (.invokevirtual 126, 3) := dd_get dm_X9_lay_0 10 rfl
theorem dX9_lay_21 : decode cX9_lay 21 = .ok (.ifCond .eq 6, 3) := dd_get dm_X9_lay_0 11 rfl
theorem dX9_lay_24 : decode cX9_lay 24 = .ok (.bipush (-3), 2) := dd_get dm_X9_lay_0 12 rfl
theorem dX9_lay_26 : decode cX9_lay 26 = .ok (.ireturn, 1) := dd_get dm_X9_lay_0 13 rfl
theorem dX9_lay_27 : decode cX9_lay 27 = .ok (.aload_n 0, 1) := dd_get dm_X9_lay_0 14 rfl
theorem dX9_lay_28 : decode cX9_lay 28 = .ok (.getfield 12, 3) := dd_get dm_X9_lay_0 15 rfl
theorem dX9_lay_31 : decode cX9_lay 31 = .ok (.getfield 147, 3) := dd_get dm_X9_lay_0 16 rfl
theorem dX9_lay_34 : decode cX9_lay 34 = .ok (.iload_n 1, 1) := dd_get dm_X9_lay_0 17 rfl
theorem dX9_lay_35 : decode cX9_lay 35 = .ok (.iaload, 1) := dd_get dm_X9_lay_0 18 rfl
theorem dX9_lay_36 : decode cX9_lay 36 = .ok (.iconst 1, 1) := dd_get dm_X9_lay_0 19 rfl
theorem dX9_lay_37 : decode cX9_lay 37 = .ok (.if_icmp .eq 6, 3) := dd_get dm_X9_lay_0 20 rfl
theorem dX9_lay_40 : decode cX9_lay 40 = .ok (.bipush (-5), 2) := dd_get dm_X9_lay_0 21 rfl
theorem dX9_lay_42 : decode cX9_lay 42 = .ok (.ireturn, 1) := dd_get dm_X9_lay_0 22 rfl
theorem dX9_lay_43 : decode cX9_lay 43 = .ok (.iload_n 3, 1) := dd_get dm_X9_lay_0 23 rfl
theorem dX9_lay_44 : decode cX9_lay 44 = .ok (.ifCond .lt 41, 3) := dd_get dm_X9_lay_0 24 rfl
theorem dX9_lay_47 : decode cX9_lay 47 = .ok (.iload_n 2, 1) := dd_get dm_X9_lay_0 25 rfl
theorem dX9_lay_48 : decode cX9_lay 48 = .ok (.ifCond .lt 37, 3) := dd_get dm_X9_lay_0 26 rfl
theorem dX9_lay_51 : decode cX9_lay 51 = .ok (.iload_n 3, 1) := dd_get dm_X9_lay_0 27 rfl
theorem dX9_lay_52 : decode cX9_lay 52 = .ok (.aload_n 0, 1) := dd_get dm_X9_lay_0 28 rfl
theorem dX9_lay_53 : decode cX9_lay 53 = .ok (.getfield 12, 3) := dd_get dm_X9_lay_0 29 rfl
theorem dX9_lay_56 : decode cX9_lay 56 = .ok (.getfield 150, 3) := dd_get dm_X9_lay_0 30 rfl
theorem dX9_lay_59 : decode cX9_lay 59 = .ok (.iload_n 1, 1) := dd_get dm_X9_lay_0 31 rfl
theorem dX9_lay_60 : decode cX9_lay 60 = .ok (.iaload, 1) := dd_get dm_X9_lay_0 32 rfl
theorem dX9_lay_61 : decode cX9_lay 61 = .ok (.iload_n 2, 1) := dd_get dm_X9_lay_0 33 rfl
theorem dX9_lay_62 : decode cX9_lay 62 = .ok (.isub, 1) := dd_get dm_X9_lay_0 34 rfl
theorem dX9_lay_63 : decode cX9_lay 63 = .ok (.if_icmp .gt 22, 3) := dd_get dm_X9_lay_0 35 rfl
theorem dX9_lay_66 : decode cX9_lay 66 = .ok (.iload 4, 2) := dd_get dm_X9_lay_0 36 rfl
theorem dX9_lay_68 : decode cX9_lay 68 = .ok (.ifCond .lt 17, 3) := dd_get dm_X9_lay_0 37 rfl
theorem dX9_lay_71 : decode cX9_lay 71 = .ok (.iload_n 3, 1) := dd_get dm_X9_lay_0 38 rfl
theorem dX9_lay_72 : decode cX9_lay 72 = .ok (.aload_n 0, 1) := dd_get dm_X9_lay_0 39 rfl
theorem dX9_lay_73 : decode cX9_lay 73 = .ok (.getfield 19, 3) := dd_get dm_X9_lay_0 40 rfl
theorem dX9_lay_76 : decode cX9_lay 76 = .ok (.getfield 91, 3) := dd_get dm_X9_lay_0 41 rfl
theorem dX9_lay_79 : decode cX9_lay 79 = .ok (.iload 4, 2) := dd_get dm_X9_lay_0 42 rfl
theorem dX9_lay_81 : decode cX9_lay 81 = .ok (.isub, 1) := dd_get dm_X9_lay_0 43 rfl
theorem dX9_lay_82 : decode cX9_lay 82 = .ok (.if_icmp .le 5, 3) := dd_get dm_X9_lay_0 44 rfl
theorem dX9_lay_85 : decode cX9_lay 85 = .ok (.iconst (-1), 1) := dd_get dm_X9_lay_0 45 rfl
theorem dX9_lay_86 : decode cX9_lay 86 = .ok (.ireturn, 1) := dd_get dm_X9_lay_0 46 rfl
theorem dX9_lay_87 : decode cX9_lay 87 = .ok (.iconst 0, 1) := dd_get dm_X9_lay_0 47 rfl
theorem dX9_lay_88 : decode cX9_lay 88 = .ok (.istore 5, 2) := dd_get dm_X9_lay_0 48 rfl
theorem dX9_lay_90 : decode cX9_lay 90 = .ok (.iload 5, 2) := dd_get dm_X9_lay_0 49 rfl
theorem dX9_lay_92 : decode cX9_lay 92 = .ok (.iload_n 3, 1) := dd_get dm_X9_lay_0 50 rfl
theorem dX9_lay_93 : decode cX9_lay 93 = .ok (.if_icmp .ge 35, 3) := dd_get dm_X9_lay_0 51 rfl
theorem dX9_lay_96 : decode cX9_lay 96 = .ok (.aload_n 0, 1) := dd_get dm_X9_lay_0 52 rfl
theorem dX9_lay_97 : decode cX9_lay 97 = .ok (.getfield 19, 3) := dd_get dm_X9_lay_0 53 rfl
theorem dX9_lay_100 : decode cX9_lay 100 = .ok (.iload 4, 2) := dd_get dm_X9_lay_0 54 rfl
theorem dX9_lay_102 : decode cX9_lay 102 = .ok (.iload 5, 2) := dd_get dm_X9_lay_0 55 rfl
theorem dX9_lay_104 : decode cX9_lay 104 = .ok (.iadd, 1) := dd_get dm_X9_lay_0 56 rfl
theorem dX9_lay_105 : decode cX9_lay 105 = .ok (.aload_n 0, 1) := dd_get dm_X9_lay_0 57 rfl
theorem dX9_lay_106 : decode cX9_lay 106 = .ok (.getfield 12, 3) := dd_get dm_X9_lay_0 58 rfl
theorem dX9_lay_109 : decode cX9_lay 109 = .ok (.getfield 139, 3) := dd_get dm_X9_lay_0 59 rfl
theorem dm_X9_lay_1 : (([(112, .iload_n 1, 1), (113, .aaload, 1), (114, .iload_n 2, 1), (115, .iload 5, 2), (117, .iadd, 1), (118, .laload, 1), (119, .invokevirtual 153, 3), (122, .iinc 5 1, 3), (125, .goto (-35), 3), (128, .aload_n 0, 1), (129, .invokevirtual 99, 3), (132, .iconst 1, 1), (133, .ireturn, 1)] : List (Nat × Instr × Nat)).all fun q => decide (decode cX9_lay q.1 = .ok (q.2.1, q.2.2))) = true := by decide +kernel
theorem dX9_lay_112 : decode cX9_lay 112 = .ok (.iload_n 1, 1) := dd_get dm_X9_lay_1 0 rfl
theorem dX9_lay_113 : decode cX9_lay 113 = .ok (.aaload, 1) := dd_get dm_X9_lay_1 1 rfl
theorem dX9_lay_114 : decode cX9_lay 114 = .ok (.iload_n 2, 1) := dd_get dm_X9_lay_1 2 rfl
theorem dX9_lay_115 : decode cX9_lay 115 = .ok (.iload 5, 2) := dd_get dm_X9_lay_1 3 rfl
theorem dX9_lay_117 : decode cX9_lay 117 = .ok (.iadd, 1) := dd_get dm_X9_lay_1 4 rfl
theorem dX9_lay_118 : decode cX9_lay 118 = .ok (.laload, 1) := dd_get dm_X9_lay_1 5 rfl
theorem dX9_lay_119 : decode cX9_lay 119 = .ok (.invokevirtual 153, 3) := dd_get dm_X9_lay_1 6 rfl
theorem dX9_lay_122 : decode cX9_lay 122 = .ok (.iinc 5 1, 3) := dd_get dm_X9_lay_1 7 rfl
theorem dX9_lay_125 : decode cX9_lay 125 = .ok (.goto (-35), 3) := dd_get dm_X9_lay_1 8 rfl
theorem dX9_lay_128 : decode cX9_lay 128 = .ok (.aload_n 0, 1) := dd_get dm_X9_lay_1 9 rfl
theorem dX9_lay_129 : decode cX9_lay 129 = .ok (.invokevirtual 99, 3) := dd_get dm_X9_lay_1 10 rfl
theorem dX9_lay_132 : decode cX9_lay 132 = .ok (.iconst 1, 1) := dd_get dm_X9_lay_1 11 rfl
theorem dX9_lay_133 : decode cX9_lay 133 = .ok (.ireturn, 1) := dd_get dm_X9_lay_1 12 rfl
theorem dm_X9_way_0 : (([(0, .iload_n 1, 1), (1, .invokestatic 83, 3), (4, .ifCond .eq 10, 3), (7, .iload_n 2, 1), (8, .invokestatic 83, 3), (11, .ifCond .ne 5, 3), (14, .iconst (-1), 1), (15, .ireturn, 1), (16, .aload_n 0, 1), (17, .getfield 19, 3), (20, .iload_n 1, 1), (21, .invokevirtual 157, 3), (24, .iload_n 2, 1), (25, .iaload, 1), (26, .istore_n 3, 1), (27, .iload_n 3, 1), (28, .ldc 161, 2), (30, .if_icmp .ne 8, 3), (33, .bipush (-10), 2), (35, .goto 4, 3), (38, .iload_n 3, 1), (39, .ireturn, 1)] : List (Nat × Instr × Nat)).all fun q => decide (decode cX9_way q.1 = .ok (q.2.1, q.2.2))) = true := by decide +kernel
theorem dX9_way_0 : decode cX9_way 0 = .ok (.iload_n 1, 1) := dd_get dm_X9_way_0 0 rfl
theorem dX9_way_1 : decode cX9_way 1 = .ok (.invokestatic 83, 3) := dd_get dm_X9_way_0 1 rfl
theorem dX9_way_4 : decode cX9_way 4 = .ok (.ifCond .eq 10, 3) := dd_get dm_X9_way_0 2 rfl
theorem dX9_way_7 : decode cX9_way 7 = .ok (.iload_n 2, 1) := dd_get dm_X9_way_0 3 rfl
theorem dX9_way_8 : decode cX9_way 8 = .ok (.invokestatic 83, 3) := dd_get dm_X9_way_0 4 rfl
theorem dX9_way_11 : decode cX9_way 11 = .ok (.ifCond .ne 5, 3) := dd_get dm_X9_way_0 5 rfl
theorem dX9_way_14 : decode cX9_way 14 = .ok (.iconst (-1), 1) := dd_get dm_X9_way_0 6 rfl
theorem dX9_way_15 : decode cX9_way 15 = .ok (.ireturn, 1) := dd_get dm_X9_way_0 7 rfl
theorem dX9_way_16 : decode cX9_way 16 = .ok (.aload_n 0, 1) := dd_get dm_X9_way_0 8 rfl
theorem dX9_way_17 : decode cX9_way 17 = .ok (.getfield 19, 3) := dd_get dm_X9_way_0 9 rfl
theorem dX9_way_20 : decode cX9_way 20 = .ok (.iload_n 1, 1) := dd_get dm_X9_way_0 10 rfl
theorem dX9_way_21 : decode cX9_way 21 = .ok (.invokevirtual 157, 3) := dd_get dm_X9_way_0 11 rfl
theorem dX9_way_24 : decode cX9_way 24 = .ok (.iload_n 2, 1) := dd_get dm_X9_way_0 12 rfl
theorem dX9_way_25 : decode cX9_way 25 = .ok (.iaload, 1) := dd_get dm_X9_way_0 13 rfl
theorem dX9_way_26 : decode cX9_way 26 = .ok (.istore_n 3, 1) := dd_get dm_X9_way_0 14 rfl
theorem dX9_way_27 : decode cX9_way 27 = .ok (.iload_n 3, 1) := dd_get dm_X9_way_0 15 rfl
theorem dX9_way_28 : decode cX9_way 28 = .ok (.ldc 161, 2) := dd_get dm_X9_way_0 16 rfl
theorem dX9_way_30 : decode cX9_way 30 = .ok (.if_icmp .ne 8, 3) := dd_get dm_X9_way_0 17 rfl
theorem dX9_way_33 : decode cX9_way 33 = .ok (.bipush (-10), 2) := dd_get dm_X9_way_0 18 rfl
theorem dX9_way_35 : decode cX9_way 35 = .ok (.goto 4, 3) := dd_get dm_X9_way_0 19 rfl
theorem dX9_way_38 : decode cX9_way 38 = .ok (.iload_n 3, 1) := dd_get dm_X9_way_0 20 rfl
theorem dX9_way_39 : decode cX9_way 39 = .ok (.ireturn, 1) := dd_get dm_X9_way_0 21 rfl
theorem dm_X9_walk_0 : (([(0, .iload_n 1, 1), (1, .invokestatic 83, 3), (4, .ifCond .eq 10, 3), (7, .iload_n 2, 1), (8, .invokestatic 83, 3), (11, .ifCond .ne 5, 3), (14, .iconst (-1), 1), (15, .ireturn, 1), (16, .aload_n 0, 1), (17, .getfield 19, 3), (20, .iload_n 1, 1), (21, .iload_n 2, 1), (22, .iload_n 3, 1), (23, .invokevirtual 162, 3), (26, .ireturn, 1)] : List (Nat × Instr × Nat)).all fun q => decide (decode cX9_walk q.1 = .ok (q.2.1, q.2.2))) = true := by decide +kernel
theorem dX9_walk_0 : decode cX9_walk 0 = .ok (.iload_n 1, 1) := dd_get dm_X9_walk_0 0 rfl
theorem dX9_walk_1 : decode cX9_walk 1 = .ok (.invokestatic 83, 3) := dd_get dm_X9_walk_0 1 rfl
theorem dX9_walk_4 : decode cX9_walk 4 = .ok (.ifCond .eq 10, 3) := dd_get dm_X9_walk_0 2 rfl
theorem dX9_walk_7 : decode cX9_walk 7 = .ok (.iload_n 2, 1) := dd_get dm_X9_walk_0 3 rfl
theorem dX9_walk_8 : decode cX9_walk 8 = .ok (.invokestatic 83, 3) := dd_get dm_X9_walk_0 4 rfl
theorem dX9_walk_11 : decode cX9_walk 11 = .ok (.ifCond .ne 5, 3) := dd_get dm_X9_walk_0 5 rfl
theorem dX9_walk_14 : decode cX9_walk 14 = .ok (.iconst (-1), 1) := dd_get dm_X9_walk_0 6 rfl
theorem dX9_walk_15 : decode cX9_walk 15 = .ok (.ireturn, 1) := dd_get dm_X9_walk_0 7 rfl
theorem dX9_walk_16 : decode cX9_walk 16 = .ok (.aload_n 0, 1) := dd_get dm_X9_walk_0 8 rfl
theorem dX9_walk_17 : decode cX9_walk 17 = .ok (.getfield 19, 3) := dd_get dm_X9_walk_0 9 rfl
theorem dX9_walk_20 : decode cX9_walk 20 = .ok (.iload_n 1, 1) := dd_get dm_X9_walk_0 10 rfl
theorem dX9_walk_21 : decode cX9_walk 21 = .ok (.iload_n 2, 1) := dd_get dm_X9_walk_0 11 rfl
theorem dX9_walk_22 : decode cX9_walk 22 = .ok (.iload_n 3, 1) := dd_get dm_X9_walk_0 12 rfl
theorem dX9_walk_23 : decode cX9_walk 23 = .ok (.invokevirtual 162, 3) := dd_get dm_X9_walk_0 13 rfl
theorem dX9_walk_26 : decode cX9_walk 26 = .ok (.ireturn, 1) := dd_get dm_X9_walk_0 14 rfl
theorem dm_X9_lamp_0 : (([(0, .iload_n 1, 1), (1, .invokestatic 83, 3), (4, .ifCond .eq 12, 3), (7, .iload_n 2, 1), (8, .ifCond .lt 8, 3), (11, .iload_n 2, 1), (12, .iconst 4, 1), (13, .if_icmp .le 5, 3), (16, .iconst (-1), 1), (17, .ireturn, 1), (18, .aload_n 0, 1), (19, .getfield 28, 3), (22, .iload_n 1, 1), (23, .invokevirtual 165, 3), (26, .ifCond .eq 6, 3), (29, .bipush (-4), 2), (31, .ireturn, 1), (32, .iload_n 2, 1), (33, .iconst 1, 1), (34, .if_icmp .ne 16, 3), (37, .aload_n 0, 1), (38, .getfield 28, 3), (41, .iload_n 3, 1), (42, .invokevirtual 168, 3), (45, .ifCond .ne 5, 3), (48, .iconst (-1), 1), (49, .ireturn, 1), (50, .aload_n 0, 1), (51, .getfield 28, 3), (54, .getfield 171, 3), (57, .bipush 12, 2), (59, .if_icmp .lt 6, 3), (62, .bipush (-2), 2), (64, .ireturn, 1), (65, .aload_n 0, 1), (66, .getfield 28, 3), (69, .iload_n 1, 1), (70, .iload_n 2, 1), (71, .iload_n 3, 1), (72, .invokevirtual 172, 3), (75, .istore 4, 2), (77, .aload_n 0, 1), (78, .invokevirtual 175, 3), (81, .iload 4, 2), (83, .ireturn, 1)] : List (Nat × Instr × Nat)).all fun q => decide (decode cX9_lamp q.1 = .ok (q.2.1, q.2.2))) = true := by decide +kernel
theorem dX9_lamp_0 : decode cX9_lamp 0 = .ok (.iload_n 1, 1) := dd_get dm_X9_lamp_0 0 rfl
theorem dX9_lamp_1 : decode cX9_lamp 1 = .ok (.invokestatic 83, 3) := dd_get dm_X9_lamp_0 1 rfl
theorem dX9_lamp_4 : decode cX9_lamp 4 = .ok (.ifCond .eq 12, 3) := dd_get dm_X9_lamp_0 2 rfl
theorem dX9_lamp_7 : decode cX9_lamp 7 = .ok (.iload_n 2, 1) := dd_get dm_X9_lamp_0 3 rfl
theorem dX9_lamp_8 : decode cX9_lamp 8 = .ok (.ifCond .lt 8, 3) := dd_get dm_X9_lamp_0 4 rfl
theorem dX9_lamp_11 : decode cX9_lamp 11 = .ok (.iload_n 2, 1) := dd_get dm_X9_lamp_0 5 rfl
theorem dX9_lamp_12 : decode cX9_lamp 12 = .ok (.iconst 4, 1) := dd_get dm_X9_lamp_0 6 rfl
theorem dX9_lamp_13 : decode cX9_lamp 13 = .ok (.if_icmp .le 5, 3) := dd_get dm_X9_lamp_0 7 rfl
theorem dX9_lamp_16 : decode cX9_lamp 16 = .ok (.iconst (-1), 1) := dd_get dm_X9_lamp_0 8 rfl
theorem dX9_lamp_17 : decode cX9_lamp 17 = .ok (.ireturn, 1) := dd_get dm_X9_lamp_0 9 rfl
theorem dX9_lamp_18 : decode cX9_lamp 18 = .ok (.aload_n 0, 1) := dd_get dm_X9_lamp_0 10 rfl
theorem dX9_lamp_19 : decode cX9_lamp 19 = .ok (.getfield 28, 3) := dd_get dm_X9_lamp_0 11 rfl
theorem dX9_lamp_22 : decode cX9_lamp 22 = .ok (.iload_n 1, 1) := dd_get dm_X9_lamp_0 12 rfl
theorem dX9_lamp_23 : decode cX9_lamp 23 = .ok (.invokevirtual 165, 3) := dd_get dm_X9_lamp_0 13 rfl
theorem dX9_lamp_26 : decode cX9_lamp 26 = .ok (.ifCond .eq 6, 3) := dd_get dm_X9_lamp_0 14 rfl
theorem dX9_lamp_29 : decode cX9_lamp 29 = .ok (.bipush (-4), 2) := dd_get dm_X9_lamp_0 15 rfl
theorem dX9_lamp_31 : decode cX9_lamp 31 = .ok (.ireturn, 1) := dd_get dm_X9_lamp_0 16 rfl
theorem dX9_lamp_32 : decode cX9_lamp 32 = .ok (.iload_n 2, 1) := dd_get dm_X9_lamp_0 17 rfl
theorem dX9_lamp_33 : decode cX9_lamp 33 = .ok (.iconst 1, 1) := dd_get dm_X9_lamp_0 18 rfl
theorem dX9_lamp_34 : decode cX9_lamp 34 = .ok (.if_icmp .ne 16, 3) := dd_get dm_X9_lamp_0 19 rfl
theorem dX9_lamp_37 : decode cX9_lamp 37 = .ok (.aload_n 0, 1) := dd_get dm_X9_lamp_0 20 rfl
theorem dX9_lamp_38 : decode cX9_lamp 38 = .ok (.getfield 28, 3) := dd_get dm_X9_lamp_0 21 rfl
theorem dX9_lamp_41 : decode cX9_lamp 41 = .ok (.iload_n 3, 1) := dd_get dm_X9_lamp_0 22 rfl
theorem dX9_lamp_42 : decode cX9_lamp 42 = .ok (.invokevirtual 168, 3) := dd_get dm_X9_lamp_0 23 rfl
theorem dX9_lamp_45 : decode cX9_lamp 45 = .ok (.ifCond .ne 5, 3) := dd_get dm_X9_lamp_0 24 rfl
theorem dX9_lamp_48 : decode cX9_lamp 48 = .ok (.iconst (-1), 1) := dd_get dm_X9_lamp_0 25 rfl
theorem dX9_lamp_49 : decode cX9_lamp 49 = .ok (.ireturn, 1) := dd_get dm_X9_lamp_0 26 rfl
theorem dX9_lamp_50 : decode cX9_lamp 50 = .ok (.aload_n 0, 1) := dd_get dm_X9_lamp_0 27 rfl
theorem dX9_lamp_51 : decode cX9_lamp 51 = .ok (.getfield 28, 3) := dd_get dm_X9_lamp_0 28 rfl
theorem dX9_lamp_54 : decode cX9_lamp 54 = .ok (.getfield 171, 3) := dd_get dm_X9_lamp_0 29 rfl
theorem dX9_lamp_57 : decode cX9_lamp 57 = .ok (.bipush 12, 2) := dd_get dm_X9_lamp_0 30 rfl
theorem dX9_lamp_59 : decode cX9_lamp 59 = .ok (.if_icmp .lt 6, 3) := dd_get dm_X9_lamp_0 31 rfl
theorem dX9_lamp_62 : decode cX9_lamp 62 = .ok (.bipush (-2), 2) := dd_get dm_X9_lamp_0 32 rfl
theorem dX9_lamp_64 : decode cX9_lamp 64 = .ok (.ireturn, 1) := dd_get dm_X9_lamp_0 33 rfl
theorem dX9_lamp_65 : decode cX9_lamp 65 = .ok (.aload_n 0, 1) := dd_get dm_X9_lamp_0 34 rfl
theorem dX9_lamp_66 : decode cX9_lamp 66 = .ok (.getfield 28, 3) := dd_get dm_X9_lamp_0 35 rfl
theorem dX9_lamp_69 : decode cX9_lamp 69 = .ok (.iload_n 1, 1) := dd_get dm_X9_lamp_0 36 rfl
theorem dX9_lamp_70 : decode cX9_lamp 70 = .ok (.iload_n 2, 1) := dd_get dm_X9_lamp_0 37 rfl
theorem dX9_lamp_71 : decode cX9_lamp 71 = .ok (.iload_n 3, 1) := dd_get dm_X9_lamp_0 38 rfl
theorem dX9_lamp_72 : decode cX9_lamp 72 = .ok (.invokevirtual 172, 3) := dd_get dm_X9_lamp_0 39 rfl
theorem dX9_lamp_75 : decode cX9_lamp 75 = .ok (.istore 4, 2) := dd_get dm_X9_lamp_0 40 rfl
theorem dX9_lamp_77 : decode cX9_lamp 77 = .ok (.aload_n 0, 1) := dd_get dm_X9_lamp_0 41 rfl
theorem dX9_lamp_78 : decode cX9_lamp 78 = .ok (.invokevirtual 175, 3) := dd_get dm_X9_lamp_0 42 rfl
theorem dX9_lamp_81 : decode cX9_lamp 81 = .ok (.iload 4, 2) := dd_get dm_X9_lamp_0 43 rfl
theorem dX9_lamp_83 : decode cX9_lamp 83 = .ok (.ireturn, 1) := dd_get dm_X9_lamp_0 44 rfl
theorem dm_X9_dark_0 : (([(0, .aload_n 0, 1), (1, .getfield 28, 3), (4, .iload_n 1, 1), (5, .invokevirtual 168, 3), (8, .ifCond .ne 5, 3), (11, .iconst (-1), 1), (12, .ireturn, 1), (13, .aload_n 0, 1), (14, .getfield 28, 3), (17, .getfield 178, 3), (20, .iload_n 1, 1), (21, .iaload, 1), (22, .iconst 3, 1), (23, .if_icmp .eq 19, 3), (26, .aload_n 0, 1), (27, .getfield 28, 3), (30, .getfield 178, 3), (33, .iload_n 1, 1), (34, .iaload, 1), (35, .iconst 4, 1), (36, .if_icmp .eq 6, 3), (39, .bipush (-5), 2), (41, .ireturn, 1), (42, .aload_n 0, 1), (43, .getfield 28, 3), (46, .iload_n 1, 1), (47, .invokevirtual 179, 3), (50, .iload_n 2, 1), (51, .if_icmp .eq 5, 3), (54, .iconst 0, 1), (55, .ireturn, 1), (56, .aload_n 0, 1), (57, .getfield 28, 3), (60, .iload_n 1, 1), (61, .invokevirtual 182, 3), (64, .aload_n 0, 1), (65, .invokevirtual 175, 3), (68, .iconst 1, 1), (69, .ireturn, 1)] : List (Nat × Instr × Nat)).all fun q => decide (decode cX9_dark q.1 = .ok (q.2.1, q.2.2))) = true := by decide +kernel
theorem dX9_dark_0 : decode cX9_dark 0 = .ok (.aload_n 0, 1) := dd_get dm_X9_dark_0 0 rfl
theorem dX9_dark_1 : decode cX9_dark 1 = .ok (.getfield 28, 3) := dd_get dm_X9_dark_0 1 rfl
theorem dX9_dark_4 : decode cX9_dark 4 = .ok (.iload_n 1, 1) := dd_get dm_X9_dark_0 2 rfl
theorem dX9_dark_5 : decode cX9_dark 5 = .ok (.invokevirtual 168, 3) := dd_get dm_X9_dark_0 3 rfl
theorem dX9_dark_8 : decode cX9_dark 8 = .ok (.ifCond .ne 5, 3) := dd_get dm_X9_dark_0 4 rfl
theorem dX9_dark_11 : decode cX9_dark 11 = .ok (.iconst (-1), 1) := dd_get dm_X9_dark_0 5 rfl
theorem dX9_dark_12 : decode cX9_dark 12 = .ok (.ireturn, 1) := dd_get dm_X9_dark_0 6 rfl
theorem dX9_dark_13 : decode cX9_dark 13 = .ok (.aload_n 0, 1) := dd_get dm_X9_dark_0 7 rfl
theorem dX9_dark_14 : decode cX9_dark 14 = .ok (.getfield 28, 3) := dd_get dm_X9_dark_0 8 rfl
theorem dX9_dark_17 : decode cX9_dark 17 = .ok (.getfield 178, 3) := dd_get dm_X9_dark_0 9 rfl
theorem dX9_dark_20 : decode cX9_dark 20 = .ok (.iload_n 1, 1) := dd_get dm_X9_dark_0 10 rfl
theorem dX9_dark_21 : decode cX9_dark 21 = .ok (.iaload, 1) := dd_get dm_X9_dark_0 11 rfl
theorem dX9_dark_22 : decode cX9_dark 22 = .ok (.iconst 3, 1) := dd_get dm_X9_dark_0 12 rfl
theorem dX9_dark_23 : decode cX9_dark 23 = .ok (.if_icmp .eq 19, 3) := dd_get dm_X9_dark_0 13 rfl
theorem dX9_dark_26 : decode cX9_dark 26 = .ok (.aload_n 0, 1) := dd_get dm_X9_dark_0 14 rfl
theorem dX9_dark_27 : decode cX9_dark 27 = .ok (.getfield 28, 3) := dd_get dm_X9_dark_0 15 rfl
theorem dX9_dark_30 : decode cX9_dark 30 = .ok (.getfield 178, 3) := dd_get dm_X9_dark_0 16 rfl
theorem dX9_dark_33 : decode cX9_dark 33 = .ok (.iload_n 1, 1) := dd_get dm_X9_dark_0 17 rfl
theorem dX9_dark_34 : decode cX9_dark 34 = .ok (.iaload, 1) := dd_get dm_X9_dark_0 18 rfl
theorem dX9_dark_35 : decode cX9_dark 35 = .ok (.iconst 4, 1) := dd_get dm_X9_dark_0 19 rfl
theorem dX9_dark_36 : decode cX9_dark 36 = .ok (.if_icmp .eq 6, 3) := dd_get dm_X9_dark_0 20 rfl
theorem dX9_dark_39 : decode cX9_dark 39 = .ok (.bipush (-5), 2) := dd_get dm_X9_dark_0 21 rfl
theorem dX9_dark_41 : decode cX9_dark 41 = .ok (.ireturn, 1) := dd_get dm_X9_dark_0 22 rfl
theorem dX9_dark_42 : decode cX9_dark 42 = .ok (.aload_n 0, 1) := dd_get dm_X9_dark_0 23 rfl
theorem dX9_dark_43 : decode cX9_dark 43 = .ok (.getfield 28, 3) := dd_get dm_X9_dark_0 24 rfl
theorem dX9_dark_46 : decode cX9_dark 46 = .ok (.iload_n 1, 1) := dd_get dm_X9_dark_0 25 rfl
theorem dX9_dark_47 : decode cX9_dark 47 = .ok (.invokevirtual 179, 3) := dd_get dm_X9_dark_0 26 rfl
theorem dX9_dark_50 : decode cX9_dark 50 = .ok (.iload_n 2, 1) := dd_get dm_X9_dark_0 27 rfl
theorem dX9_dark_51 : decode cX9_dark 51 = .ok (.if_icmp .eq 5, 3) := dd_get dm_X9_dark_0 28 rfl
theorem dX9_dark_54 : decode cX9_dark 54 = .ok (.iconst 0, 1) := dd_get dm_X9_dark_0 29 rfl
theorem dX9_dark_55 : decode cX9_dark 55 = .ok (.ireturn, 1) := dd_get dm_X9_dark_0 30 rfl
theorem dX9_dark_56 : decode cX9_dark 56 = .ok (.aload_n 0, 1) := dd_get dm_X9_dark_0 31 rfl
theorem dX9_dark_57 : decode cX9_dark 57 = .ok (.getfield 28, 3) := dd_get dm_X9_dark_0 32 rfl
theorem dX9_dark_60 : decode cX9_dark 60 = .ok (.iload_n 1, 1) := dd_get dm_X9_dark_0 33 rfl
theorem dX9_dark_61 : decode cX9_dark 61 = .ok (.invokevirtual 182, 3) := dd_get dm_X9_dark_0 34 rfl
theorem dX9_dark_64 : decode cX9_dark 64 = .ok (.aload_n 0, 1) := dd_get dm_X9_dark_0 35 rfl
theorem dX9_dark_65 : decode cX9_dark 65 = .ok (.invokevirtual 175, 3) := dd_get dm_X9_dark_0 36 rfl
theorem dX9_dark_68 : decode cX9_dark 68 = .ok (.iconst 1, 1) := dd_get dm_X9_dark_0 37 rfl
theorem dX9_dark_69 : decode cX9_dark 69 = .ok (.ireturn, 1) := dd_get dm_X9_dark_0 38 rfl
theorem dm_X9_twin_0 : (([(0, .aload_n 0, 1), (1, .getfield 28, 3), (4, .iload_n 1, 1), (5, .invokevirtual 168, 3), (8, .ifCond .ne 6, 3), (11, .bipush (-2), 2), (13, .ireturn, 1), (14, .aload_n 0, 1), (15, .getfield 28, 3), (18, .getfield 178, 3), (21, .iload_n 1, 1), (22, .iaload, 1), (23, .iconst 1, 1), (24, .if_icmp .eq 19, 3), (27, .aload_n 0, 1), (28, .getfield 28, 3), (31, .getfield 178, 3), (34, .iload_n 1, 1), (35, .iaload, 1), (36, .iconst 2, 1), (37, .if_icmp .eq 6, 3), (40, .bipush (-5), 2), (42, .ireturn, 1), (43, .aload_n 0, 1), (44, .getfield 28, 3), (47, .invokevirtual 185, 3), (50, .aload_n 0, 1), (51, .getfield 28, 3), (54, .getfield 188, 3), (57, .iload_n 1, 1), (58, .iaload, 1), (59, .ireturn, 1)] : List (Nat × Instr × Nat)).all fun q => decide (decode cX9_twin q.1 = .ok (q.2.1, q.2.2))) = true := by decide +kernel
theorem dX9_twin_0 : decode cX9_twin 0 = .ok (.aload_n 0, 1) := dd_get dm_X9_twin_0 0 rfl
theorem dX9_twin_1 : decode cX9_twin 1 = .ok (.getfield 28, 3) := dd_get dm_X9_twin_0 1 rfl
theorem dX9_twin_4 : decode cX9_twin 4 = .ok (.iload_n 1, 1) := dd_get dm_X9_twin_0 2 rfl
theorem dX9_twin_5 : decode cX9_twin 5 = .ok (.invokevirtual 168, 3) := dd_get dm_X9_twin_0 3 rfl
theorem dX9_twin_8 : decode cX9_twin 8 = .ok (.ifCond .ne 6, 3) := dd_get dm_X9_twin_0 4 rfl
theorem dX9_twin_11 : decode cX9_twin 11 = .ok (.bipush (-2), 2) := dd_get dm_X9_twin_0 5 rfl
theorem dX9_twin_13 : decode cX9_twin 13 = .ok (.ireturn, 1) := dd_get dm_X9_twin_0 6 rfl
theorem dX9_twin_14 : decode cX9_twin 14 = .ok (.aload_n 0, 1) := dd_get dm_X9_twin_0 7 rfl
theorem dX9_twin_15 : decode cX9_twin 15 = .ok (.getfield 28, 3) := dd_get dm_X9_twin_0 8 rfl
theorem dX9_twin_18 : decode cX9_twin 18 = .ok (.getfield 178, 3) := dd_get dm_X9_twin_0 9 rfl
theorem dX9_twin_21 : decode cX9_twin 21 = .ok (.iload_n 1, 1) := dd_get dm_X9_twin_0 10 rfl
theorem dX9_twin_22 : decode cX9_twin 22 = .ok (.iaload, 1) := dd_get dm_X9_twin_0 11 rfl
theorem dX9_twin_23 : decode cX9_twin 23 = .ok (.iconst 1, 1) := dd_get dm_X9_twin_0 12 rfl
theorem dX9_twin_24 : decode cX9_twin 24 = .ok (.if_icmp .eq 19, 3) := dd_get dm_X9_twin_0 13 rfl
theorem dX9_twin_27 : decode cX9_twin 27 = .ok (.aload_n 0, 1) := dd_get dm_X9_twin_0 14 rfl
theorem dX9_twin_28 : decode cX9_twin 28 = .ok (.getfield 28, 3) := dd_get dm_X9_twin_0 15 rfl
theorem dX9_twin_31 : decode cX9_twin 31 = .ok (.getfield 178, 3) := dd_get dm_X9_twin_0 16 rfl
theorem dX9_twin_34 : decode cX9_twin 34 = .ok (.iload_n 1, 1) := dd_get dm_X9_twin_0 17 rfl
theorem dX9_twin_35 : decode cX9_twin 35 = .ok (.iaload, 1) := dd_get dm_X9_twin_0 18 rfl
theorem dX9_twin_36 : decode cX9_twin 36 = .ok (.iconst 2, 1) := dd_get dm_X9_twin_0 19 rfl
theorem dX9_twin_37 : decode cX9_twin 37 = .ok (.if_icmp .eq 6, 3) := dd_get dm_X9_twin_0 20 rfl
theorem dX9_twin_40 : decode cX9_twin 40 = .ok (.bipush (-5), 2) := dd_get dm_X9_twin_0 21 rfl
theorem dX9_twin_42 : decode cX9_twin 42 = .ok (.ireturn, 1) := dd_get dm_X9_twin_0 22 rfl
theorem dX9_twin_43 : decode cX9_twin 43 = .ok (.aload_n 0, 1) := dd_get dm_X9_twin_0 23 rfl
theorem dX9_twin_44 : decode cX9_twin 44 = .ok (.getfield 28, 3) := dd_get dm_X9_twin_0 24 rfl
theorem dX9_twin_47 : decode cX9_twin 47 = .ok (.invokevirtual 185, 3) := dd_get dm_X9_twin_0 25 rfl
theorem dX9_twin_50 : decode cX9_twin 50 = .ok (.aload_n 0, 1) := dd_get dm_X9_twin_0 26 rfl
theorem dX9_twin_51 : decode cX9_twin 51 = .ok (.getfield 28, 3) := dd_get dm_X9_twin_0 27 rfl
theorem dX9_twin_54 : decode cX9_twin 54 = .ok (.getfield 188, 3) := dd_get dm_X9_twin_0 28 rfl
theorem dX9_twin_57 : decode cX9_twin 57 = .ok (.iload_n 1, 1) := dd_get dm_X9_twin_0 29 rfl
theorem dX9_twin_58 : decode cX9_twin 58 = .ok (.iaload, 1) := dd_get dm_X9_twin_0 30 rfl
theorem dX9_twin_59 : decode cX9_twin 59 = .ok (.ireturn, 1) := dd_get dm_X9_twin_0 31 rfl
theorem dm_X9_of_0 : (([(0, .aload_n 0, 1), (1, .getfield 28, 3), (4, .iload_n 1, 1), (5, .invokevirtual 168, 3), (8, .ifCond .ne 6, 3), (11, .ldc 191, 2), (13, .ireturn, 1), (14, .iload_n 2, 1), (15, .tableswitch 89 0 4 #[33, 43, 53, 62, 79], 33), (48, .aload_n 0, 1), (49, .getfield 28, 3), (52, .getfield 192, 3), (55, .iload_n 1, 1), (56, .iaload, 1), (57, .ireturn, 1), (58, .aload_n 0, 1), (59, .getfield 28, 3), (62, .getfield 178, 3), (65, .iload_n 1, 1), (66, .iaload, 1), (67, .ireturn, 1), (68, .aload_n 0, 1), (69, .getfield 28, 3), (72, .iload_n 1, 1), (73, .invokevirtual 195, 3), (76, .ireturn, 1), (77, .aload_n 0, 1), (78, .getfield 28, 3), (81, .iload_n 1, 1), (82, .invokevirtual 179, 3), (85, .ifCond .eq 7, 3), (88, .iconst 0, 1), (89, .goto 4, 3), (92, .iconst 1, 1), (93, .ireturn, 1), (94, .aload_n 0, 1), (95, .getfield 28, 3), (98, .getfield 199, 3), (101, .iload_n 1, 1), (102, .iaload, 1), (103, .ireturn, 1), (104, .ldc 191, 2), (106, .ireturn, 1)] : List (Nat × Instr × Nat)).all fun q => decide (decode cX9_of q.1 = .ok (q.2.1, q.2.2))) = true := by decide +kernel
theorem dX9_of_0 : decode cX9_of 0 = .ok (.aload_n 0, 1) := dd_get dm_X9_of_0 0 rfl
theorem dX9_of_1 : decode cX9_of 1 = .ok (.getfield 28, 3) := dd_get dm_X9_of_0 1 rfl
theorem dX9_of_4 : decode cX9_of 4 = .ok (.iload_n 1, 1) := dd_get dm_X9_of_0 2 rfl
theorem dX9_of_5 : decode cX9_of 5 = .ok (.invokevirtual 168, 3) := dd_get dm_X9_of_0 3 rfl
theorem dX9_of_8 : decode cX9_of 8 = .ok (.ifCond .ne 6, 3) := dd_get dm_X9_of_0 4 rfl
theorem dX9_of_11 : decode cX9_of 11 = .ok (.ldc 191, 2) := dd_get dm_X9_of_0 5 rfl
theorem dX9_of_13 : decode cX9_of 13 = .ok (.ireturn, 1) := dd_get dm_X9_of_0 6 rfl
theorem dX9_of_14 : decode cX9_of 14 = .ok (.iload_n 2, 1) := dd_get dm_X9_of_0 7 rfl
theorem dX9_of_15 : decode cX9_of 15 = .ok (.tableswitch 89 0 4 #[33, 43, 53, 62, 79], 33) := dd_get dm_X9_of_0 8 rfl
theorem dX9_of_48 : decode cX9_of 48 = .ok (.aload_n 0, 1) := dd_get dm_X9_of_0 9 rfl
theorem dX9_of_49 : decode cX9_of 49 = .ok (.getfield 28, 3) := dd_get dm_X9_of_0 10 rfl
theorem dX9_of_52 : decode cX9_of 52 = .ok (.getfield 192, 3) := dd_get dm_X9_of_0 11 rfl
theorem dX9_of_55 : decode cX9_of 55 = .ok (.iload_n 1, 1) := dd_get dm_X9_of_0 12 rfl
theorem dX9_of_56 : decode cX9_of 56 = .ok (.iaload, 1) := dd_get dm_X9_of_0 13 rfl
theorem dX9_of_57 : decode cX9_of 57 = .ok (.ireturn, 1) := dd_get dm_X9_of_0 14 rfl
theorem dX9_of_58 : decode cX9_of 58 = .ok (.aload_n 0, 1) := dd_get dm_X9_of_0 15 rfl
theorem dX9_of_59 : decode cX9_of 59 = .ok (.getfield 28, 3) := dd_get dm_X9_of_0 16 rfl
theorem dX9_of_62 : decode cX9_of 62 = .ok (.getfield 178, 3) := dd_get dm_X9_of_0 17 rfl
theorem dX9_of_65 : decode cX9_of 65 = .ok (.iload_n 1, 1) := dd_get dm_X9_of_0 18 rfl
theorem dX9_of_66 : decode cX9_of 66 = .ok (.iaload, 1) := dd_get dm_X9_of_0 19 rfl
theorem dX9_of_67 : decode cX9_of 67 = .ok (.ireturn, 1) := dd_get dm_X9_of_0 20 rfl
theorem dX9_of_68 : decode cX9_of 68 = .ok (.aload_n 0, 1) := dd_get dm_X9_of_0 21 rfl
theorem dX9_of_69 : decode cX9_of 69 = .ok (.getfield 28, 3) := dd_get dm_X9_of_0 22 rfl
theorem dX9_of_72 : decode cX9_of 72 = .ok (.iload_n 1, 1) := dd_get dm_X9_of_0 23 rfl
theorem dX9_of_73 : decode cX9_of 73 = .ok (.invokevirtual 195, 3) := dd_get dm_X9_of_0 24 rfl
theorem dX9_of_76 : decode cX9_of 76 = .ok (.ireturn, 1) := dd_get dm_X9_of_0 25 rfl
theorem dX9_of_77 : decode cX9_of 77 = .ok (.aload_n 0, 1) := dd_get dm_X9_of_0 26 rfl
theorem dX9_of_78 : decode cX9_of 78 = .ok (.getfield 28, 3) := dd_get dm_X9_of_0 27 rfl
theorem dX9_of_81 : decode cX9_of 81 = .ok (.iload_n 1, 1) := dd_get dm_X9_of_0 28 rfl
theorem dX9_of_82 : decode cX9_of 82 = .ok (.invokevirtual 179, 3) := dd_get dm_X9_of_0 29 rfl
theorem dX9_of_85 : decode cX9_of 85 = .ok (.ifCond .eq 7, 3) := dd_get dm_X9_of_0 30 rfl
theorem dX9_of_88 : decode cX9_of 88 = .ok (.iconst 0, 1) := dd_get dm_X9_of_0 31 rfl
theorem dX9_of_89 : decode cX9_of 89 = .ok (.goto 4, 3) := dd_get dm_X9_of_0 32 rfl
theorem dX9_of_92 : decode cX9_of 92 = .ok (.iconst 1, 1) := dd_get dm_X9_of_0 33 rfl
theorem dX9_of_93 : decode cX9_of 93 = .ok (.ireturn, 1) := dd_get dm_X9_of_0 34 rfl
theorem dX9_of_94 : decode cX9_of 94 = .ok (.aload_n 0, 1) := dd_get dm_X9_of_0 35 rfl
theorem dX9_of_95 : decode cX9_of 95 = .ok (.getfield 28, 3) := dd_get dm_X9_of_0 36 rfl
theorem dX9_of_98 : decode cX9_of 98 = .ok (.getfield 199, 3) := dd_get dm_X9_of_0 37 rfl
theorem dX9_of_101 : decode cX9_of 101 = .ok (.iload_n 1, 1) := dd_get dm_X9_of_0 38 rfl
theorem dX9_of_102 : decode cX9_of 102 = .ok (.iaload, 1) := dd_get dm_X9_of_0 39 rfl
theorem dX9_of_103 : decode cX9_of 103 = .ok (.ireturn, 1) := dd_get dm_X9_of_0 40 rfl
theorem dX9_of_104 : decode cX9_of 104 = .ok (.ldc 191, 2) := dd_get dm_X9_of_0 41 rfl
theorem dX9_of_106 : decode cX9_of 106 = .ok (.ireturn, 1) := dd_get dm_X9_of_0 42 rfl
theorem dm_X9_many_0 : (([(0, .iload_n 1, 1), (1, .tableswitch 87 0 5 #[39, 47, 55, 63, 71, 79], 39), (40, .aload_n 0, 1), (41, .getfield 19, 3), (44, .getfield 91, 3), (47, .ireturn, 1), (48, .aload_n 0, 1), (49, .getfield 28, 3), (52, .getfield 171, 3), (55, .ireturn, 1), (56, .aload_n 0, 1), (57, .getfield 28, 3), (60, .invokevirtual 202, 3), (63, .ireturn, 1), (64, .aload_n 0, 1), (65, .getfield 76, 3), (68, .getfield 206, 3), (71, .ireturn, 1), (72, .aload_n 0, 1), (73, .getfield 37, 3), (76, .getfield 207, 3), (79, .ireturn, 1), (80, .aload_n 0, 1), (81, .getfield 28, 3), (84, .invokevirtual 208, 3), (87, .ireturn, 1), (88, .iconst (-1), 1), (89, .ireturn, 1)] : List (Nat × Instr × Nat)).all fun q => decide (decode cX9_many q.1 = .ok (q.2.1, q.2.2))) = true := by decide +kernel
theorem dX9_many_0 : decode cX9_many 0 = .ok (.iload_n 1, 1) := dd_get dm_X9_many_0 0 rfl
theorem dX9_many_1 : decode cX9_many 1 = .ok (.tableswitch 87 0 5 #[39, 47, 55, 63, 71, 79], 39) := dd_get dm_X9_many_0 1 rfl
theorem dX9_many_40 : decode cX9_many 40 = .ok (.aload_n 0, 1) := dd_get dm_X9_many_0 2 rfl
theorem dX9_many_41 : decode cX9_many 41 = .ok (.getfield 19, 3) := dd_get dm_X9_many_0 3 rfl
theorem dX9_many_44 : decode cX9_many 44 = .ok (.getfield 91, 3) := dd_get dm_X9_many_0 4 rfl
theorem dX9_many_47 : decode cX9_many 47 = .ok (.ireturn, 1) := dd_get dm_X9_many_0 5 rfl
theorem dX9_many_48 : decode cX9_many 48 = .ok (.aload_n 0, 1) := dd_get dm_X9_many_0 6 rfl
theorem dX9_many_49 : decode cX9_many 49 = .ok (.getfield 28, 3) := dd_get dm_X9_many_0 7 rfl
theorem dX9_many_52 : decode cX9_many 52 = .ok (.getfield 171, 3) := dd_get dm_X9_many_0 8 rfl
theorem dX9_many_55 : decode cX9_many 55 = .ok (.ireturn, 1) := dd_get dm_X9_many_0 9 rfl
theorem dX9_many_56 : decode cX9_many 56 = .ok (.aload_n 0, 1) := dd_get dm_X9_many_0 10 rfl
theorem dX9_many_57 : decode cX9_many 57 = .ok (.getfield 28, 3) := dd_get dm_X9_many_0 11 rfl
theorem dX9_many_60 : decode cX9_many 60 = .ok (.invokevirtual 202, 3) := dd_get dm_X9_many_0 12 rfl
theorem dX9_many_63 : decode cX9_many 63 = .ok (.ireturn, 1) := dd_get dm_X9_many_0 13 rfl
theorem dX9_many_64 : decode cX9_many 64 = .ok (.aload_n 0, 1) := dd_get dm_X9_many_0 14 rfl
theorem dX9_many_65 : decode cX9_many 65 = .ok (.getfield 76, 3) := dd_get dm_X9_many_0 15 rfl
theorem dX9_many_68 : decode cX9_many 68 = .ok (.getfield 206, 3) := dd_get dm_X9_many_0 16 rfl
theorem dX9_many_71 : decode cX9_many 71 = .ok (.ireturn, 1) := dd_get dm_X9_many_0 17 rfl
theorem dX9_many_72 : decode cX9_many 72 = .ok (.aload_n 0, 1) := dd_get dm_X9_many_0 18 rfl
theorem dX9_many_73 : decode cX9_many 73 = .ok (.getfield 37, 3) := dd_get dm_X9_many_0 19 rfl
theorem dX9_many_76 : decode cX9_many 76 = .ok (.getfield 207, 3) := dd_get dm_X9_many_0 20 rfl
theorem dX9_many_79 : decode cX9_many 79 = .ok (.ireturn, 1) := dd_get dm_X9_many_0 21 rfl
theorem dX9_many_80 : decode cX9_many 80 = .ok (.aload_n 0, 1) := dd_get dm_X9_many_0 22 rfl
theorem dX9_many_81 : decode cX9_many 81 = .ok (.getfield 28, 3) := dd_get dm_X9_many_0 23 rfl
theorem dX9_many_84 : decode cX9_many 84 = .ok (.invokevirtual 208, 3) := dd_get dm_X9_many_0 24 rfl
theorem dX9_many_87 : decode cX9_many 87 = .ok (.ireturn, 1) := dd_get dm_X9_many_0 25 rfl
theorem dX9_many_88 : decode cX9_many 88 = .ok (.iconst (-1), 1) := dd_get dm_X9_many_0 26 rfl
theorem dX9_many_89 : decode cX9_many 89 = .ok (.ireturn, 1) := dd_get dm_X9_many_0 27 rfl
theorem dm_X9_least_0 : (([(0, .aload_n 0, 1), (1, .invokevirtual 211, 3), (4, .ifCond .eq 6, 3), (7, .bipush (-8), 2), (9, .ireturn, 1), (10, .aload_n 0, 1), (11, .getfield 44, 3), (14, .invokevirtual 215, 3), (17, .aload_n 0, 1), (18, .getfield 44, 3), (21, .invokevirtual 218, 3), (24, .ifCond .ne 6, 3), (27, .bipush (-7), 2), (29, .ireturn, 1), (30, .aload_n 0, 1), (31, .getfield 37, 3), (34, .aload_n 0, 1), (35, .getfield 44, 3), (38, .getfield 221, 3), (41, .aload_n 0, 1), (42, .getfield 44, 3), (45, .getfield 224, 3), (48, .invokevirtual 226, 3), (51, .aload_n 0, 1), (52, .getfield 44, 3), (55, .getfield 230, 3), (58, .ireturn, 1)] : List (Nat × Instr × Nat)).all fun q => decide (decode cX9_least q.1 = .ok (q.2.1, q.2.2))) = true := by decide +kernel
theorem dX9_least_0 : decode cX9_least 0 = .ok (.aload_n 0, 1) := dd_get dm_X9_least_0 0 rfl
theorem dX9_least_1 : decode cX9_least 1 = .ok (.invokevirtual 211, 3) := dd_get dm_X9_least_0 1 rfl
theorem dX9_least_4 : decode cX9_least 4 = .ok (.ifCond .eq 6, 3) := dd_get dm_X9_least_0 2 rfl
theorem dX9_least_7 : decode cX9_least 7 = .ok (.bipush (-8), 2) := dd_get dm_X9_least_0 3 rfl
theorem dX9_least_9 : decode cX9_least 9 = .ok (.ireturn, 1) := dd_get dm_X9_least_0 4 rfl
theorem dX9_least_10 : decode cX9_least 10 = .ok (.aload_n 0, 1) := dd_get dm_X9_least_0 5 rfl
theorem dX9_least_11 : decode cX9_least 11 = .ok (.getfield 44, 3) := dd_get dm_X9_least_0 6 rfl
theorem dX9_least_14 : decode cX9_least 14 = .ok (.invokevirtual 215, 3) := dd_get dm_X9_least_0 7 rfl
theorem dX9_least_17 : decode cX9_least 17 = .ok (.aload_n 0, 1) := dd_get dm_X9_least_0 8 rfl
theorem dX9_least_18 : decode cX9_least 18 = .ok (.getfield 44, 3) := dd_get dm_X9_least_0 9 rfl
theorem dX9_least_21 : decode cX9_least 21 = .ok (.invokevirtual 218, 3) := dd_get dm_X9_least_0 10 rfl
theorem dX9_least_24 : decode cX9_least 24 = .ok (.ifCond .ne 6, 3) := dd_get dm_X9_least_0 11 rfl
theorem dX9_least_27 : decode cX9_least 27 = .ok (.bipush (-7), 2) := dd_get dm_X9_least_0 12 rfl
theorem dX9_least_29 : decode cX9_least 29 = .ok (.ireturn, 1) := dd_get dm_X9_least_0 13 rfl
theorem dX9_least_30 : decode cX9_least 30 = .ok (.aload_n 0, 1) := dd_get dm_X9_least_0 14 rfl
theorem dX9_least_31 : decode cX9_least 31 = .ok (.getfield 37, 3) := dd_get dm_X9_least_0 15 rfl
theorem dX9_least_34 : decode cX9_least 34 = .ok (.aload_n 0, 1) := dd_get dm_X9_least_0 16 rfl
theorem dX9_least_35 : decode cX9_least 35 = .ok (.getfield 44, 3) := dd_get dm_X9_least_0 17 rfl
theorem dX9_least_38 : decode cX9_least 38 = .ok (.getfield 221, 3) := dd_get dm_X9_least_0 18 rfl
theorem dX9_least_41 : decode cX9_least 41 = .ok (.aload_n 0, 1) := dd_get dm_X9_least_0 19 rfl
theorem dX9_least_42 : decode cX9_least 42 = .ok (.getfield 44, 3) := dd_get dm_X9_least_0 20 rfl
theorem dX9_least_45 : decode cX9_least 45 = .ok (.getfield 224, 3) := dd_get dm_X9_least_0 21 rfl
theorem dX9_least_48 : decode cX9_least 48 = .ok (.invokevirtual 226, 3) := dd_get dm_X9_least_0 22 rfl
theorem dX9_least_51 : decode cX9_least 51 = .ok (.aload_n 0, 1) := dd_get dm_X9_least_0 23 rfl
theorem dX9_least_52 : decode cX9_least 52 = .ok (.getfield 44, 3) := dd_get dm_X9_least_0 24 rfl
theorem dX9_least_55 : decode cX9_least 55 = .ok (.getfield 230, 3) := dd_get dm_X9_least_0 25 rfl
theorem dX9_least_58 : decode cX9_least 58 = .ok (.ireturn, 1) := dd_get dm_X9_least_0 26 rfl
theorem dm_X9_second_0 : (([(0, .aload_n 0, 1), (1, .getfield 37, 3), (4, .invokevirtual 233, 3), (7, .ifCond .ne 6, 3), (10, .bipush (-4), 2), (12, .ireturn, 1), (13, .aload_n 0, 1), (14, .invokevirtual 211, 3), (17, .ifCond .eq 6, 3), (20, .bipush (-8), 2), (22, .ireturn, 1), (23, .aload_n 0, 1), (24, .getfield 44, 3), (27, .invokevirtual 215, 3), (30, .aload_n 0, 1), (31, .getfield 37, 3), (34, .aload_n 0, 1), (35, .getfield 44, 3), (38, .getfield 236, 3), (41, .invokevirtual 239, 3), (44, .aload_n 0, 1), (45, .getfield 44, 3), (48, .iconst 1, 1), (49, .putfield 243, 3), (52, .aload_n 0, 1), (53, .getfield 44, 3), (56, .invokevirtual 218, 3), (59, .ifCond .eq 13, 3), (62, .aload_n 0, 1), (63, .getfield 44, 3), (66, .getfield 230, 3), (69, .goto 5, 3), (72, .bipush (-7), 2), (74, .ireturn, 1)] : List (Nat × Instr × Nat)).all fun q => decide (decode cX9_second q.1 = .ok (q.2.1, q.2.2))) = true := by decide +kernel
theorem dX9_second_0 : decode cX9_second 0 = .ok (.aload_n 0, 1) := dd_get dm_X9_second_0 0 rfl
theorem dX9_second_1 : decode cX9_second 1 = .ok (.getfield 37, 3) := dd_get dm_X9_second_0 1 rfl
theorem dX9_second_4 : decode cX9_second 4 = .ok (.invokevirtual 233, 3) := dd_get dm_X9_second_0 2 rfl
theorem dX9_second_7 : decode cX9_second 7 = .ok (.ifCond .ne 6, 3) := dd_get dm_X9_second_0 3 rfl
theorem dX9_second_10 : decode cX9_second 10 = .ok (.bipush (-4), 2) := dd_get dm_X9_second_0 4 rfl
theorem dX9_second_12 : decode cX9_second 12 = .ok (.ireturn, 1) := dd_get dm_X9_second_0 5 rfl
theorem dX9_second_13 : decode cX9_second 13 = .ok (.aload_n 0, 1) := dd_get dm_X9_second_0 6 rfl
theorem dX9_second_14 : decode cX9_second 14 = .ok (.invokevirtual 211, 3) := dd_get dm_X9_second_0 7 rfl
theorem dX9_second_17 : decode cX9_second 17 = .ok (.ifCond .eq 6, 3) := dd_get dm_X9_second_0 8 rfl
theorem dX9_second_20 : decode cX9_second 20 = .ok (.bipush (-8), 2) := dd_get dm_X9_second_0 9 rfl
theorem dX9_second_22 : decode cX9_second 22 = .ok (.ireturn, 1) := dd_get dm_X9_second_0 10 rfl
theorem dX9_second_23 : decode cX9_second 23 = .ok (.aload_n 0, 1) := dd_get dm_X9_second_0 11 rfl
theorem dX9_second_24 : decode cX9_second 24 = .ok (.getfield 44, 3) := dd_get dm_X9_second_0 12 rfl
theorem dX9_second_27 : decode cX9_second 27 = .ok (.invokevirtual 215, 3) := dd_get dm_X9_second_0 13 rfl
theorem dX9_second_30 : decode cX9_second 30 = .ok (.aload_n 0, 1) := dd_get dm_X9_second_0 14 rfl
theorem dX9_second_31 : decode cX9_second 31 = .ok (.getfield 37, 3) := dd_get dm_X9_second_0 15 rfl
theorem dX9_second_34 : decode cX9_second 34 = .ok (.aload_n 0, 1) := dd_get dm_X9_second_0 16 rfl
theorem dX9_second_35 : decode cX9_second 35 = .ok (.getfield 44, 3) := dd_get dm_X9_second_0 17 rfl
theorem dX9_second_38 : decode cX9_second 38 = .ok (.getfield 236, 3) := dd_get dm_X9_second_0 18 rfl
theorem dX9_second_41 : decode cX9_second 41 = .ok (.invokevirtual 239, 3) := dd_get dm_X9_second_0 19 rfl
theorem dX9_second_44 : decode cX9_second 44 = .ok (.aload_n 0, 1) := dd_get dm_X9_second_0 20 rfl
theorem dX9_second_45 : decode cX9_second 45 = .ok (.getfield 44, 3) := dd_get dm_X9_second_0 21 rfl
theorem dX9_second_48 : decode cX9_second 48 = .ok (.iconst 1, 1) := dd_get dm_X9_second_0 22 rfl
theorem dX9_second_49 : decode cX9_second 49 = .ok (.putfield 243, 3) := dd_get dm_X9_second_0 23 rfl
theorem dX9_second_52 : decode cX9_second 52 = .ok (.aload_n 0, 1) := dd_get dm_X9_second_0 24 rfl
theorem dX9_second_53 : decode cX9_second 53 = .ok (.getfield 44, 3) := dd_get dm_X9_second_0 25 rfl
theorem dX9_second_56 : decode cX9_second 56 = .ok (.invokevirtual 218, 3) := dd_get dm_X9_second_0 26 rfl
theorem dX9_second_59 : decode cX9_second 59 = .ok (.ifCond .eq 13, 3) := dd_get dm_X9_second_0 27 rfl
theorem dX9_second_62 : decode cX9_second 62 = .ok (.aload_n 0, 1) := dd_get dm_X9_second_0 28 rfl
theorem dX9_second_63 : decode cX9_second 63 = .ok (.getfield 44, 3) := dd_get dm_X9_second_0 29 rfl
theorem dX9_second_66 : decode cX9_second 66 = .ok (.getfield 230, 3) := dd_get dm_X9_second_0 30 rfl
theorem dX9_second_69 : decode cX9_second 69 = .ok (.goto 5, 3) := dd_get dm_X9_second_0 31 rfl
theorem dX9_second_72 : decode cX9_second 72 = .ok (.bipush (-7), 2) := dd_get dm_X9_second_0 32 rfl
theorem dX9_second_74 : decode cX9_second 74 = .ok (.ireturn, 1) := dd_get dm_X9_second_0 33 rfl
theorem dm_X9_with_0 : (([(0, .aload_n 0, 1), (1, .getfield 28, 3), (4, .iload_n 1, 1), (5, .invokevirtual 179, 3), (8, .ifCond .eq 19, 3), (11, .aload_n 0, 1), (12, .getfield 28, 3), (15, .iload_n 2, 1), (16, .invokevirtual 179, 3), (19, .ifCond .eq 8, 3), (22, .iload_n 1, 1), (23, .iload_n 2, 1), (24, .if_icmp .ne 5, 3), (27, .iconst (-1), 1), (28, .ireturn, 1), (29, .aload_n 0, 1), (30, .invokevirtual 211, 3), (33, .ifCond .eq 6, 3), (36, .bipush (-8), 2), (38, .ireturn, 1), (39, .aload_n 0, 1), (40, .getfield 44, 3), (43, .invokevirtual 215, 3), (46, .aload_n 0, 1), (47, .getfield 44, 3), (50, .iload_n 3, 1), (51, .ifCond .eq 13, 3), (54, .aload_n 0, 1), (55, .getfield 44, 3), (58, .getfield 247, 3), (61, .goto 10, 3), (64, .aload_n 0, 1), (65, .getfield 44, 3), (68, .getfield 250, 3), (71, .iload_n 1, 1), (72, .iload_n 2, 1), (73, .invokevirtual 253, 3), (76, .aload_n 0, 1), (77, .getfield 44, 3), (80, .invokevirtual 218, 3), (83, .ifCond .eq 13, 3), (86, .aload_n 0, 1), (87, .getfield 44, 3), (90, .getfield 230, 3), (93, .goto 5, 3), (96, .bipush (-7), 2), (98, .ireturn, 1)] : List (Nat × Instr × Nat)).all fun q => decide (decode cX9_with q.1 = .ok (q.2.1, q.2.2))) = true := by decide +kernel
theorem dX9_with_0 : decode cX9_with 0 = .ok (.aload_n 0, 1) := dd_get dm_X9_with_0 0 rfl
theorem dX9_with_1 : decode cX9_with 1 = .ok (.getfield 28, 3) := dd_get dm_X9_with_0 1 rfl
theorem dX9_with_4 : decode cX9_with 4 = .ok (.iload_n 1, 1) := dd_get dm_X9_with_0 2 rfl
theorem dX9_with_5 : decode cX9_with 5 = .ok (.invokevirtual 179, 3) := dd_get dm_X9_with_0 3 rfl
theorem dX9_with_8 : decode cX9_with 8 = .ok (.ifCond .eq 19, 3) := dd_get dm_X9_with_0 4 rfl
theorem dX9_with_11 : decode cX9_with 11 = .ok (.aload_n 0, 1) := dd_get dm_X9_with_0 5 rfl
theorem dX9_with_12 : decode cX9_with 12 = .ok (.getfield 28, 3) := dd_get dm_X9_with_0 6 rfl
theorem dX9_with_15 : decode cX9_with 15 = .ok (.iload_n 2, 1) := dd_get dm_X9_with_0 7 rfl
theorem dX9_with_16 : decode cX9_with 16 = .ok (.invokevirtual 179, 3) := dd_get dm_X9_with_0 8 rfl
theorem dX9_with_19 : decode cX9_with 19 = .ok (.ifCond .eq 8, 3) := dd_get dm_X9_with_0 9 rfl
theorem dX9_with_22 : decode cX9_with 22 = .ok (.iload_n 1, 1) := dd_get dm_X9_with_0 10 rfl
theorem dX9_with_23 : decode cX9_with 23 = .ok (.iload_n 2, 1) := dd_get dm_X9_with_0 11 rfl
theorem dX9_with_24 : decode cX9_with 24 = .ok (.if_icmp .ne 5, 3) := dd_get dm_X9_with_0 12 rfl
theorem dX9_with_27 : decode cX9_with 27 = .ok (.iconst (-1), 1) := dd_get dm_X9_with_0 13 rfl
theorem dX9_with_28 : decode cX9_with 28 = .ok (.ireturn, 1) := dd_get dm_X9_with_0 14 rfl
theorem dX9_with_29 : decode cX9_with 29 = .ok (.aload_n 0, 1) := dd_get dm_X9_with_0 15 rfl
theorem dX9_with_30 : decode cX9_with 30 = .ok (.invokevirtual 211, 3) := dd_get dm_X9_with_0 16 rfl
theorem dX9_with_33 : decode cX9_with 33 = .ok (.ifCond .eq 6, 3) := dd_get dm_X9_with_0 17 rfl
theorem dX9_with_36 : decode cX9_with 36 = .ok (.bipush (-8), 2) := dd_get dm_X9_with_0 18 rfl
theorem dX9_with_38 : decode cX9_with 38 = .ok (.ireturn, 1) := dd_get dm_X9_with_0 19 rfl
theorem dX9_with_39 : decode cX9_with 39 = .ok (.aload_n 0, 1) := dd_get dm_X9_with_0 20 rfl
theorem dX9_with_40 : decode cX9_with 40 = .ok (.getfield 44, 3) := dd_get dm_X9_with_0 21 rfl
theorem dX9_with_43 : decode cX9_with 43 = .ok (.invokevirtual 215, 3) := dd_get dm_X9_with_0 22 rfl
theorem dX9_with_46 : decode cX9_with 46 = .ok (.aload_n 0, 1) := dd_get dm_X9_with_0 23 rfl
theorem dX9_with_47 : decode cX9_with 47 = .ok (.getfield 44, 3) := dd_get dm_X9_with_0 24 rfl
theorem dX9_with_50 : decode cX9_with 50 = .ok (.iload_n 3, 1) := dd_get dm_X9_with_0 25 rfl
theorem dX9_with_51 : decode cX9_with 51 = .ok (.ifCond .eq 13, 3) := dd_get dm_X9_with_0 26 rfl
theorem dX9_with_54 : decode cX9_with 54 = .ok (.aload_n 0, 1) := dd_get dm_X9_with_0 27 rfl
theorem dX9_with_55 : decode cX9_with 55 = .ok (.getfield 44, 3) := dd_get dm_X9_with_0 28 rfl
theorem dX9_with_58 : decode cX9_with 58 = .ok (.getfield 247, 3) := dd_get dm_X9_with_0 29 rfl
theorem dX9_with_61 : decode cX9_with 61 = .ok (.goto 10, 3) := dd_get dm_X9_with_0 30 rfl
theorem dX9_with_64 : decode cX9_with 64 = .ok (.aload_n 0, 1) := dd_get dm_X9_with_0 31 rfl
theorem dX9_with_65 : decode cX9_with 65 = .ok (.getfield 44, 3) := dd_get dm_X9_with_0 32 rfl
theorem dX9_with_68 : decode cX9_with 68 = .ok (.getfield 250, 3) := dd_get dm_X9_with_0 33 rfl
theorem dX9_with_71 : decode cX9_with 71 = .ok (.iload_n 1, 1) := dd_get dm_X9_with_0 34 rfl
theorem dX9_with_72 : decode cX9_with 72 = .ok (.iload_n 2, 1) := dd_get dm_X9_with_0 35 rfl
theorem dX9_with_73 : decode cX9_with 73 = .ok (.invokevirtual 253, 3) := dd_get dm_X9_with_0 36 rfl
theorem dX9_with_76 : decode cX9_with 76 = .ok (.aload_n 0, 1) := dd_get dm_X9_with_0 37 rfl
theorem dX9_with_77 : decode cX9_with 77 = .ok (.getfield 44, 3) := dd_get dm_X9_with_0 38 rfl
theorem dX9_with_80 : decode cX9_with 80 = .ok (.invokevirtual 218, 3) := dd_get dm_X9_with_0 39 rfl
theorem dX9_with_83 : decode cX9_with 83 = .ok (.ifCond .eq 13, 3) := dd_get dm_X9_with_0 40 rfl
theorem dX9_with_86 : decode cX9_with 86 = .ok (.aload_n 0, 1) := dd_get dm_X9_with_0 41 rfl
theorem dX9_with_87 : decode cX9_with 87 = .ok (.getfield 44, 3) := dd_get dm_X9_with_0 42 rfl
theorem dX9_with_90 : decode cX9_with 90 = .ok (.getfield 230, 3) := dd_get dm_X9_with_0 43 rfl
theorem dX9_with_93 : decode cX9_with 93 = .ok (.goto 5, 3) := dd_get dm_X9_with_0 44 rfl
theorem dX9_with_96 : decode cX9_with 96 = .ok (.bipush (-7), 2) := dd_get dm_X9_with_0 45 rfl
theorem dX9_with_98 : decode cX9_with 98 = .ok (.ireturn, 1) := dd_get dm_X9_with_0 46 rfl
theorem dm_X9_put_0 : (([(0, .aload_n 0, 1), (1, .getfield 28, 3), (4, .iload_n 1, 1), (5, .invokevirtual 168, 3), (8, .ifCond .ne 5, 3), (11, .iconst (-1), 1), (12, .ireturn, 1), (13, .aload_n 0, 1), (14, .getfield 28, 3), (17, .iload_n 1, 1), (18, .invokevirtual 179, 3), (21, .ifCond .eq 14, 3), (24, .aload_n 0, 1), (25, .getfield 37, 3), (28, .iload_n 1, 1), (29, .invokevirtual 257, 3), (32, .ifCond .eq 6, 3), (35, .bipush (-4), 2), (37, .ireturn, 1), (38, .aload_n 0, 1), (39, .getfield 37, 3), (42, .iload_n 1, 1), (43, .invokevirtual 260, 3), (46, .ireturn, 1)] : List (Nat × Instr × Nat)).all fun q => decide (decode cX9_put q.1 = .ok (q.2.1, q.2.2))) = true := by decide +kernel
theorem dX9_put_0 : decode cX9_put 0 = .ok (.aload_n 0, 1) := dd_get dm_X9_put_0 0 rfl
theorem dX9_put_1 : decode cX9_put 1 = .ok (.getfield 28, 3) := dd_get dm_X9_put_0 1 rfl
theorem dX9_put_4 : decode cX9_put 4 = .ok (.iload_n 1, 1) := dd_get dm_X9_put_0 2 rfl
theorem dX9_put_5 : decode cX9_put 5 = .ok (.invokevirtual 168, 3) := dd_get dm_X9_put_0 3 rfl
theorem dX9_put_8 : decode cX9_put 8 = .ok (.ifCond .ne 5, 3) := dd_get dm_X9_put_0 4 rfl
theorem dX9_put_11 : decode cX9_put 11 = .ok (.iconst (-1), 1) := dd_get dm_X9_put_0 5 rfl
theorem dX9_put_12 : decode cX9_put 12 = .ok (.ireturn, 1) := dd_get dm_X9_put_0 6 rfl
theorem dX9_put_13 : decode cX9_put 13 = .ok (.aload_n 0, 1) := dd_get dm_X9_put_0 7 rfl
theorem dX9_put_14 : decode cX9_put 14 = .ok (.getfield 28, 3) := dd_get dm_X9_put_0 8 rfl
theorem dX9_put_17 : decode cX9_put 17 = .ok (.iload_n 1, 1) := dd_get dm_X9_put_0 9 rfl
theorem dX9_put_18 : decode cX9_put 18 = .ok (.invokevirtual 179, 3) := dd_get dm_X9_put_0 10 rfl
theorem dX9_put_21 : decode cX9_put 21 = .ok (.ifCond .eq 14, 3) := dd_get dm_X9_put_0 11 rfl
theorem dX9_put_24 : decode cX9_put 24 = .ok (.aload_n 0, 1) := dd_get dm_X9_put_0 12 rfl
theorem dX9_put_25 : decode cX9_put 25 = .ok (.getfield 37, 3) := dd_get dm_X9_put_0 13 rfl
theorem dX9_put_28 : decode cX9_put 28 = .ok (.iload_n 1, 1) := dd_get dm_X9_put_0 14 rfl
theorem dX9_put_29 : decode cX9_put 29 = .ok (.invokevirtual 257, 3) := dd_get dm_X9_put_0 15 rfl
theorem dX9_put_32 : decode cX9_put 32 = .ok (.ifCond .eq 6, 3) := dd_get dm_X9_put_0 16 rfl
theorem dX9_put_35 : decode cX9_put 35 = .ok (.bipush (-4), 2) := dd_get dm_X9_put_0 17 rfl
theorem dX9_put_37 : decode cX9_put 37 = .ok (.ireturn, 1) := dd_get dm_X9_put_0 18 rfl
theorem dX9_put_38 : decode cX9_put 38 = .ok (.aload_n 0, 1) := dd_get dm_X9_put_0 19 rfl
theorem dX9_put_39 : decode cX9_put 39 = .ok (.getfield 37, 3) := dd_get dm_X9_put_0 20 rfl
theorem dX9_put_42 : decode cX9_put 42 = .ok (.iload_n 1, 1) := dd_get dm_X9_put_0 21 rfl
theorem dX9_put_43 : decode cX9_put 43 = .ok (.invokevirtual 260, 3) := dd_get dm_X9_put_0 22 rfl
theorem dX9_put_46 : decode cX9_put 46 = .ok (.ireturn, 1) := dd_get dm_X9_put_0 23 rfl
theorem dm_X9_clear_0 : (([(0, .aload_n 0, 1), (1, .getfield 37, 3), (4, .invokevirtual 263, 3), (7, .ireturn, 1)] : List (Nat × Instr × Nat)).all fun q => decide (decode cX9_clear q.1 = .ok (q.2.1, q.2.2))) = true := by decide +kernel
theorem dX9_clear_0 : decode cX9_clear 0 = .ok (.aload_n 0, 1) := dd_get dm_X9_clear_0 0 rfl
theorem dX9_clear_1 : decode cX9_clear 1 = .ok (.getfield 37, 3) := dd_get dm_X9_clear_0 1 rfl
theorem dX9_clear_4 : decode cX9_clear 4 = .ok (.invokevirtual 263, 3) := dd_get dm_X9_clear_0 2 rfl
theorem dX9_clear_7 : decode cX9_clear 7 = .ok (.ireturn, 1) := dd_get dm_X9_clear_0 3 rfl
theorem dm_X9_at_0 : (([(0, .iload_n 1, 1), (1, .ifCond .lt 26, 3), (4, .iload_n 1, 1), (5, .aload_n 0, 1), (6, .getfield 37, 3), (9, .getfield 207, 3), (12, .if_icmp .ge 15, 3), (15, .aload_n 0, 1), (16, .getfield 37, 3), (19, .getfield 266, 3), (22, .iload_n 1, 1), (23, .iaload, 1), (24, .goto 4, 3), (27, .iconst (-1), 1), (28, .ireturn, 1)] : List (Nat × Instr × Nat)).all fun q => decide (decode cX9_at q.1 = .ok (q.2.1, q.2.2))) = true := by decide +kernel
theorem dX9_at_0 : decode cX9_at 0 = .ok (.iload_n 1, 1) := dd_get dm_X9_at_0 0 rfl
theorem dX9_at_1 : decode cX9_at 1 = .ok (.ifCond .lt 26, 3) := dd_get dm_X9_at_0 1 rfl
theorem dX9_at_4 : decode cX9_at 4 = .ok (.iload_n 1, 1) := dd_get dm_X9_at_0 2 rfl
theorem dX9_at_5 : decode cX9_at 5 = .ok (.aload_n 0, 1) := dd_get dm_X9_at_0 3 rfl
theorem dX9_at_6 : decode cX9_at 6 = .ok (.getfield 37, 3) := dd_get dm_X9_at_0 4 rfl
theorem dX9_at_9 : decode cX9_at 9 = .ok (.getfield 207, 3) := dd_get dm_X9_at_0 5 rfl
theorem dX9_at_12 : decode cX9_at 12 = .ok (.if_icmp .ge 15, 3) := dd_get dm_X9_at_0 6 rfl
theorem dX9_at_15 : decode cX9_at 15 = .ok (.aload_n 0, 1) := dd_get dm_X9_at_0 7 rfl
theorem dX9_at_16 : decode cX9_at 16 = .ok (.getfield 37, 3) := dd_get dm_X9_at_0 8 rfl
theorem dX9_at_19 : decode cX9_at 19 = .ok (.getfield 266, 3) := dd_get dm_X9_at_0 9 rfl
theorem dX9_at_22 : decode cX9_at 22 = .ok (.iload_n 1, 1) := dd_get dm_X9_at_0 10 rfl
theorem dX9_at_23 : decode cX9_at 23 = .ok (.iaload, 1) := dd_get dm_X9_at_0 11 rfl
theorem dX9_at_24 : decode cX9_at 24 = .ok (.goto 4, 3) := dd_get dm_X9_at_0 12 rfl
theorem dX9_at_27 : decode cX9_at 27 = .ok (.iconst (-1), 1) := dd_get dm_X9_at_0 13 rfl
theorem dX9_at_28 : decode cX9_at 28 = .ok (.ireturn, 1) := dd_get dm_X9_at_0 14 rfl
theorem dm_X9_length_0 : (([(0, .aload_n 0, 1), (1, .getfield 37, 3), (4, .invokevirtual 233, 3), (7, .ifCond .ne 6, 3), (10, .bipush (-4), 2), (12, .ireturn, 1), (13, .aload_n 0, 1), (14, .getfield 37, 3), (17, .invokevirtual 269, 3), (20, .istore_n 1, 1), (21, .iload_n 1, 1), (22, .ldc 161, 2), (24, .if_icmp .lt 8, 3), (27, .bipush (-10), 2), (29, .goto 4, 3), (32, .iload_n 1, 1), (33, .ireturn, 1)] : List (Nat × Instr × Nat)).all fun q => decide (decode cX9_length q.1 = .ok (q.2.1, q.2.2))) = true := by decide +kernel
theorem dX9_length_0 : decode cX9_length 0 = .ok (.aload_n 0, 1) := dd_get dm_X9_length_0 0 rfl
theorem dX9_length_1 : decode cX9_length 1 = .ok (.getfield 37, 3) := dd_get dm_X9_length_0 1 rfl
theorem dX9_length_4 : decode cX9_length 4 = .ok (.invokevirtual 233, 3) := dd_get dm_X9_length_0 2 rfl
theorem dX9_length_7 : decode cX9_length 7 = .ok (.ifCond .ne 6, 3) := dd_get dm_X9_length_0 3 rfl
theorem dX9_length_10 : decode cX9_length 10 = .ok (.bipush (-4), 2) := dd_get dm_X9_length_0 4 rfl
theorem dX9_length_12 : decode cX9_length 12 = .ok (.ireturn, 1) := dd_get dm_X9_length_0 5 rfl
theorem dX9_length_13 : decode cX9_length 13 = .ok (.aload_n 0, 1) := dd_get dm_X9_length_0 6 rfl
theorem dX9_length_14 : decode cX9_length 14 = .ok (.getfield 37, 3) := dd_get dm_X9_length_0 7 rfl
theorem dX9_length_17 : decode cX9_length 17 = .ok (.invokevirtual 269, 3) := dd_get dm_X9_length_0 8 rfl
theorem dX9_length_20 : decode cX9_length 20 = .ok (.istore_n 1, 1) := dd_get dm_X9_length_0 9 rfl
theorem dX9_length_21 : decode cX9_length 21 = .ok (.iload_n 1, 1) := dd_get dm_X9_length_0 10 rfl
theorem dX9_length_22 : decode cX9_length 22 = .ok (.ldc 161, 2) := dd_get dm_X9_length_0 11 rfl
theorem dX9_length_24 : decode cX9_length 24 = .ok (.if_icmp .lt 8, 3) := dd_get dm_X9_length_0 12 rfl
theorem dX9_length_27 : decode cX9_length 27 = .ok (.bipush (-10), 2) := dd_get dm_X9_length_0 13 rfl
theorem dX9_length_29 : decode cX9_length 29 = .ok (.goto 4, 3) := dd_get dm_X9_length_0 14 rfl
theorem dX9_length_32 : decode cX9_length 32 = .ok (.iload_n 1, 1) := dd_get dm_X9_length_0 15 rfl
theorem dX9_length_33 : decode cX9_length 33 = .ok (.ireturn, 1) := dd_get dm_X9_length_0 16 rfl
theorem dm_X9_keeps_0 : (([(0, .aload_n 0, 1), (1, .getfield 37, 3), (4, .invokevirtual 233, 3), (7, .ifCond .ne 6, 3), (10, .bipush (-4), 2), (12, .ireturn, 1), (13, .aload_n 0, 1), (14, .getfield 37, 3), (17, .invokevirtual 272, 3), (20, .ifCond .eq 7, 3), (23, .iconst 1, 1), (24, .goto 4, 3), (27, .iconst 0, 1), (28, .ireturn, 1)] : List (Nat × Instr × Nat)).all fun q => decide (decode cX9_keeps q.1 = .ok (q.2.1, q.2.2))) = true := by decide +kernel
theorem dX9_keeps_0 : decode cX9_keeps 0 = .ok (.aload_n 0, 1) := dd_get dm_X9_keeps_0 0 rfl
theorem dX9_keeps_1 : decode cX9_keeps 1 = .ok (.getfield 37, 3) := dd_get dm_X9_keeps_0 1 rfl
theorem dX9_keeps_4 : decode cX9_keeps 4 = .ok (.invokevirtual 233, 3) := dd_get dm_X9_keeps_0 2 rfl
theorem dX9_keeps_7 : decode cX9_keeps 7 = .ok (.ifCond .ne 6, 3) := dd_get dm_X9_keeps_0 3 rfl
theorem dX9_keeps_10 : decode cX9_keeps 10 = .ok (.bipush (-4), 2) := dd_get dm_X9_keeps_0 4 rfl
theorem dX9_keeps_12 : decode cX9_keeps 12 = .ok (.ireturn, 1) := dd_get dm_X9_keeps_0 5 rfl
theorem dX9_keeps_13 : decode cX9_keeps 13 = .ok (.aload_n 0, 1) := dd_get dm_X9_keeps_0 6 rfl
theorem dX9_keeps_14 : decode cX9_keeps 14 = .ok (.getfield 37, 3) := dd_get dm_X9_keeps_0 7 rfl
theorem dX9_keeps_17 : decode cX9_keeps 17 = .ok (.invokevirtual 272, 3) := dd_get dm_X9_keeps_0 8 rfl
theorem dX9_keeps_20 : decode cX9_keeps 20 = .ok (.ifCond .eq 7, 3) := dd_get dm_X9_keeps_0 9 rfl
theorem dX9_keeps_23 : decode cX9_keeps 23 = .ok (.iconst 1, 1) := dd_get dm_X9_keeps_0 10 rfl
theorem dX9_keeps_24 : decode cX9_keeps 24 = .ok (.goto 4, 3) := dd_get dm_X9_keeps_0 11 rfl
theorem dX9_keeps_27 : decode cX9_keeps 27 = .ok (.iconst 0, 1) := dd_get dm_X9_keeps_0 12 rfl
theorem dX9_keeps_28 : decode cX9_keeps 28 = .ok (.ireturn, 1) := dd_get dm_X9_keeps_0 13 rfl
theorem dm_X9_turn_0 : (([(0, .aload_n 0, 1), (1, .getfield 37, 3), (4, .invokevirtual 233, 3), (7, .ifCond .ne 6, 3), (10, .bipush (-4), 2), (12, .ireturn, 1), (13, .iload_n 1, 1), (14, .ifCond .lt 19, 3), (17, .iload_n 2, 1), (18, .iload_n 1, 1), (19, .if_icmp .le 14, 3), (22, .iload_n 2, 1), (23, .aload_n 0, 1), (24, .getfield 37, 3), (27, .getfield 207, 3), (30, .if_icmp .lt 5, 3), (33, .iconst (-1), 1), (34, .ireturn, 1), (35, .aload_n 0, 1), (36, .getfield 37, 3), (39, .iload_n 1, 1), (40, .iconst 1, 1), (41, .iadd, 1), (42, .iload_n 2, 1), (43, .invokevirtual 275, 3), (46, .iconst 1, 1), (47, .ireturn, 1)] : List (Nat × Instr × Nat)).all fun q => decide (decode cX9_turn q.1 = .ok (q.2.1, q.2.2))) = true := by decide +kernel
theorem dX9_turn_0 : decode cX9_turn 0 = .ok (.aload_n 0, 1) := dd_get dm_X9_turn_0 0 rfl
theorem dX9_turn_1 : decode cX9_turn 1 = .ok (.getfield 37, 3) := dd_get dm_X9_turn_0 1 rfl
theorem dX9_turn_4 : decode cX9_turn 4 = .ok (.invokevirtual 233, 3) := dd_get dm_X9_turn_0 2 rfl
theorem dX9_turn_7 : decode cX9_turn 7 = .ok (.ifCond .ne 6, 3) := dd_get dm_X9_turn_0 3 rfl
theorem dX9_turn_10 : decode cX9_turn 10 = .ok (.bipush (-4), 2) := dd_get dm_X9_turn_0 4 rfl
theorem dX9_turn_12 : decode cX9_turn 12 = .ok (.ireturn, 1) := dd_get dm_X9_turn_0 5 rfl
theorem dX9_turn_13 : decode cX9_turn 13 = .ok (.iload_n 1, 1) := dd_get dm_X9_turn_0 6 rfl
theorem dX9_turn_14 : decode cX9_turn 14 = .ok (.ifCond .lt 19, 3) := dd_get dm_X9_turn_0 7 rfl
theorem dX9_turn_17 : decode cX9_turn 17 = .ok (.iload_n 2, 1) := dd_get dm_X9_turn_0 8 rfl
theorem dX9_turn_18 : decode cX9_turn 18 = .ok (.iload_n 1, 1) := dd_get dm_X9_turn_0 9 rfl
theorem dX9_turn_19 : decode cX9_turn 19 = .ok (.if_icmp .le 14, 3) := dd_get dm_X9_turn_0 10 rfl
theorem dX9_turn_22 : decode cX9_turn 22 = .ok (.iload_n 2, 1) := dd_get dm_X9_turn_0 11 rfl
theorem dX9_turn_23 : decode cX9_turn 23 = .ok (.aload_n 0, 1) := dd_get dm_X9_turn_0 12 rfl
theorem dX9_turn_24 : decode cX9_turn 24 = .ok (.getfield 37, 3) := dd_get dm_X9_turn_0 13 rfl
theorem dX9_turn_27 : decode cX9_turn 27 = .ok (.getfield 207, 3) := dd_get dm_X9_turn_0 14 rfl
theorem dX9_turn_30 : decode cX9_turn 30 = .ok (.if_icmp .lt 5, 3) := dd_get dm_X9_turn_0 15 rfl
theorem dX9_turn_33 : decode cX9_turn 33 = .ok (.iconst (-1), 1) := dd_get dm_X9_turn_0 16 rfl
theorem dX9_turn_34 : decode cX9_turn 34 = .ok (.ireturn, 1) := dd_get dm_X9_turn_0 17 rfl
theorem dX9_turn_35 : decode cX9_turn 35 = .ok (.aload_n 0, 1) := dd_get dm_X9_turn_0 18 rfl
theorem dX9_turn_36 : decode cX9_turn 36 = .ok (.getfield 37, 3) := dd_get dm_X9_turn_0 19 rfl
theorem dX9_turn_39 : decode cX9_turn 39 = .ok (.iload_n 1, 1) := dd_get dm_X9_turn_0 20 rfl
theorem dX9_turn_40 : decode cX9_turn 40 = .ok (.iconst 1, 1) := dd_get dm_X9_turn_0 21 rfl
theorem dX9_turn_41 : decode cX9_turn 41 = .ok (.iadd, 1) := dd_get dm_X9_turn_0 22 rfl
theorem dX9_turn_42 : decode cX9_turn 42 = .ok (.iload_n 2, 1) := dd_get dm_X9_turn_0 23 rfl
theorem dX9_turn_43 : decode cX9_turn 43 = .ok (.invokevirtual 275, 3) := dd_get dm_X9_turn_0 24 rfl
theorem dX9_turn_46 : decode cX9_turn 46 = .ok (.iconst 1, 1) := dd_get dm_X9_turn_0 25 rfl
theorem dX9_turn_47 : decode cX9_turn 47 = .ok (.ireturn, 1) := dd_get dm_X9_turn_0 26 rfl
theorem dm_X9_better_0 : (([(0, .aload_n 0, 1), (1, .getfield 37, 3), (4, .invokevirtual 233, 3), (7, .ifCond .ne 6, 3), (10, .bipush (-4), 2), (12, .ireturn, 1), (13, .aload_n 0, 1), (14, .getfield 37, 3), (17, .invokevirtual 269, 3), (20, .ldc 161, 2), (22, .if_icmp .lt 6, 3), (25, .bipush (-10), 2), (27, .ireturn, 1), (28, .iconst 0, 1), (29, .istore_n 1, 1), (30, .iload_n 1, 1), (31, .bipush 100, 2), (33, .if_icmp .ge 19, 3), (36, .aload_n 0, 1), (37, .getfield 37, 3), (40, .invokevirtual 279, 3), (43, .ifCond .eq 9, 3), (46, .iinc 1 1, 3), (49, .goto (-19), 3), (52, .iload_n 1, 1), (53, .ireturn, 1)] : List (Nat × Instr × Nat)).all fun q => decide (decode cX9_better q.1 = .ok (q.2.1, q.2.2))) = true := by decide +kernel
theorem dX9_better_0 : decode cX9_better 0 = .ok (.aload_n 0, 1) := dd_get dm_X9_better_0 0 rfl
theorem dX9_better_1 : decode cX9_better 1 = .ok (.getfield 37, 3) := dd_get dm_X9_better_0 1 rfl
theorem dX9_better_4 : decode cX9_better 4 = .ok (.invokevirtual 233, 3) := dd_get dm_X9_better_0 2 rfl
theorem dX9_better_7 : decode cX9_better 7 = .ok (.ifCond .ne 6, 3) := dd_get dm_X9_better_0 3 rfl
theorem dX9_better_10 : decode cX9_better 10 = .ok (.bipush (-4), 2) := dd_get dm_X9_better_0 4 rfl
theorem dX9_better_12 : decode cX9_better 12 = .ok (.ireturn, 1) := dd_get dm_X9_better_0 5 rfl
theorem dX9_better_13 : decode cX9_better 13 = .ok (.aload_n 0, 1) := dd_get dm_X9_better_0 6 rfl
theorem dX9_better_14 : decode cX9_better 14 = .ok (.getfield 37, 3) := dd_get dm_X9_better_0 7 rfl
theorem dX9_better_17 : decode cX9_better 17 = .ok (.invokevirtual 269, 3) := dd_get dm_X9_better_0 8 rfl
theorem dX9_better_20 : decode cX9_better 20 = .ok (.ldc 161, 2) := dd_get dm_X9_better_0 9 rfl
theorem dX9_better_22 : decode cX9_better 22 = .ok (.if_icmp .lt 6, 3) := dd_get dm_X9_better_0 10 rfl
theorem dX9_better_25 : decode cX9_better 25 = .ok (.bipush (-10), 2) := dd_get dm_X9_better_0 11 rfl
theorem dX9_better_27 : decode cX9_better 27 = .ok (.ireturn, 1) := dd_get dm_X9_better_0 12 rfl
theorem dX9_better_28 : decode cX9_better 28 = .ok (.iconst 0, 1) := dd_get dm_X9_better_0 13 rfl
theorem dX9_better_29 : decode cX9_better 29 = .ok (.istore_n 1, 1) := dd_get dm_X9_better_0 14 rfl
theorem dX9_better_30 : decode cX9_better 30 = .ok (.iload_n 1, 1) := dd_get dm_X9_better_0 15 rfl
theorem dX9_better_31 : decode cX9_better 31 = .ok (.bipush 100, 2) := dd_get dm_X9_better_0 16 rfl
theorem dX9_better_33 : decode cX9_better 33 = .ok (.if_icmp .ge 19, 3) := dd_get dm_X9_better_0 17 rfl
theorem dX9_better_36 : decode cX9_better 36 = .ok (.aload_n 0, 1) := dd_get dm_X9_better_0 18 rfl
theorem dX9_better_37 : decode cX9_better 37 = .ok (.getfield 37, 3) := dd_get dm_X9_better_0 19 rfl
theorem dX9_better_40 : decode cX9_better 40 = .ok (.invokevirtual 279, 3) := dd_get dm_X9_better_0 20 rfl
theorem dX9_better_43 : decode cX9_better 43 = .ok (.ifCond .eq 9, 3) := dd_get dm_X9_better_0 21 rfl
theorem dX9_better_46 : decode cX9_better 46 = .ok (.iinc 1 1, 3) := dd_get dm_X9_better_0 22 rfl
theorem dX9_better_49 : decode cX9_better 49 = .ok (.goto (-19), 3) := dd_get dm_X9_better_0 23 rfl
theorem dX9_better_52 : decode cX9_better 52 = .ok (.iload_n 1, 1) := dd_get dm_X9_better_0 24 rfl
theorem dX9_better_53 : decode cX9_better 53 = .ok (.ireturn, 1) := dd_get dm_X9_better_0 25 rfl
theorem dm_X9_price_0 : (([(0, .aload_n 0, 1), (1, .getfield 28, 3), (4, .iload_n 1, 1), (5, .invokevirtual 168, 3), (8, .ifCond .eq 17, 3), (11, .iload_n 2, 1), (12, .ldc_w 282, 3), (15, .if_icmp .lt 10, 3), (18, .iload_n 2, 1), (19, .ldc_w 283, 3), (22, .if_icmp .le 5, 3), (25, .iconst (-1), 1), (26, .ireturn, 1), (27, .aload_n 0, 1), (28, .getfield 28, 3), (31, .getfield 199, 3), (34, .iload_n 1, 1), (35, .iload_n 2, 1), (36, .iastore, 1), (37, .iconst 1, 1), (38, .ireturn, 1)] : List (Nat × Instr × Nat)).all fun q => decide (decode cX9_price q.1 = .ok (q.2.1, q.2.2))) = true := by decide +kernel
theorem dX9_price_0 : decode cX9_price 0 = .ok (.aload_n 0, 1) := dd_get dm_X9_price_0 0 rfl
theorem dX9_price_1 : decode cX9_price 1 = .ok (.getfield 28, 3) := dd_get dm_X9_price_0 1 rfl
theorem dX9_price_4 : decode cX9_price 4 = .ok (.iload_n 1, 1) := dd_get dm_X9_price_0 2 rfl
theorem dX9_price_5 : decode cX9_price 5 = .ok (.invokevirtual 168, 3) := dd_get dm_X9_price_0 3 rfl
theorem dX9_price_8 : decode cX9_price 8 = .ok (.ifCond .eq 17, 3) := dd_get dm_X9_price_0 4 rfl
theorem dX9_price_11 : decode cX9_price 11 = .ok (.iload_n 2, 1) := dd_get dm_X9_price_0 5 rfl
theorem dX9_price_12 : decode cX9_price 12 = .ok (.ldc_w 282, 3) := dd_get dm_X9_price_0 6 rfl
theorem dX9_price_15 : decode cX9_price 15 = .ok (.if_icmp .lt 10, 3) := dd_get dm_X9_price_0 7 rfl
theorem dX9_price_18 : decode cX9_price 18 = .ok (.iload_n 2, 1) := dd_get dm_X9_price_0 8 rfl
theorem dX9_price_19 : decode cX9_price 19 = .ok (.ldc_w 283, 3) := dd_get dm_X9_price_0 9 rfl
theorem dX9_price_22 : decode cX9_price 22 = .ok (.if_icmp .le 5, 3) := dd_get dm_X9_price_0 10 rfl
theorem dX9_price_25 : decode cX9_price 25 = .ok (.iconst (-1), 1) := dd_get dm_X9_price_0 11 rfl
theorem dX9_price_26 : decode cX9_price 26 = .ok (.ireturn, 1) := dd_get dm_X9_price_0 12 rfl
theorem dX9_price_27 : decode cX9_price 27 = .ok (.aload_n 0, 1) := dd_get dm_X9_price_0 13 rfl
theorem dX9_price_28 : decode cX9_price 28 = .ok (.getfield 28, 3) := dd_get dm_X9_price_0 14 rfl
theorem dX9_price_31 : decode cX9_price 31 = .ok (.getfield 199, 3) := dd_get dm_X9_price_0 15 rfl
theorem dX9_price_34 : decode cX9_price 34 = .ok (.iload_n 1, 1) := dd_get dm_X9_price_0 16 rfl
theorem dX9_price_35 : decode cX9_price 35 = .ok (.iload_n 2, 1) := dd_get dm_X9_price_0 17 rfl
theorem dX9_price_36 : decode cX9_price 36 = .ok (.iastore, 1) := dd_get dm_X9_price_0 18 rfl
theorem dX9_price_37 : decode cX9_price 37 = .ok (.iconst 1, 1) := dd_get dm_X9_price_0 19 rfl
theorem dX9_price_38 : decode cX9_price 38 = .ok (.ireturn, 1) := dd_get dm_X9_price_0 20 rfl
theorem dm_X9_climb_0 : (([(0, .iload_n 1, 1), (1, .iconst 1, 1), (2, .if_icmp .lt 9, 3), (5, .iload_n 1, 1), (6, .bipush 100, 2), (8, .if_icmp .le 5, 3), (11, .iconst (-1), 1), (12, .ireturn, 1), (13, .aload_n 0, 1), (14, .invokevirtual 284, 3), (17, .ifCond .eq 6, 3), (20, .bipush (-4), 2), (22, .ireturn, 1), (23, .aload_n 0, 1), (24, .invokevirtual 287, 3), (27, .iconst 0, 1), (28, .istore_n 2, 1), (29, .iload_n 2, 1), (30, .iload_n 1, 1), (31, .if_icmp .ge 44, 3), (34, .aload_n 0, 1), (35, .getfield 60, 3), (38, .invokevirtual 290, 3), (41, .ldc2_w 294, 3), (44, .lcmp, 1), (45, .ifCond .ge 30, 3), (48, .aload_n 0, 1), (49, .getfield 60, 3), (52, .invokevirtual 296, 3), (55, .aload_n 0, 1), (56, .getfield 60, 3), (59, .invokevirtual 299, 3), (62, .aload_n 0, 1), (63, .getfield 60, 3), (66, .invokevirtual 302, 3), (69, .iinc 2 1, 3), (72, .goto (-43), 3), (75, .iload_n 2, 1), (76, .ireturn, 1)] : List (Nat × Instr × Nat)).all fun q => decide (decode cX9_climb q.1 = .ok (q.2.1, q.2.2))) = true := by decide +kernel
theorem dX9_climb_0 : decode cX9_climb 0 = .ok (.iload_n 1, 1) := dd_get dm_X9_climb_0 0 rfl
theorem dX9_climb_1 : decode cX9_climb 1 = .ok (.iconst 1, 1) := dd_get dm_X9_climb_0 1 rfl
theorem dX9_climb_2 : decode cX9_climb 2 = .ok (.if_icmp .lt 9, 3) := dd_get dm_X9_climb_0 2 rfl
theorem dX9_climb_5 : decode cX9_climb 5 = .ok (.iload_n 1, 1) := dd_get dm_X9_climb_0 3 rfl
theorem dX9_climb_6 : decode cX9_climb 6 = .ok (.bipush 100, 2) := dd_get dm_X9_climb_0 4 rfl
theorem dX9_climb_8 : decode cX9_climb 8 = .ok (.if_icmp .le 5, 3) := dd_get dm_X9_climb_0 5 rfl
theorem dX9_climb_11 : decode cX9_climb 11 = .ok (.iconst (-1), 1) := dd_get dm_X9_climb_0 6 rfl
theorem dX9_climb_12 : decode cX9_climb 12 = .ok (.ireturn, 1) := dd_get dm_X9_climb_0 7 rfl
theorem dX9_climb_13 : decode cX9_climb 13 = .ok (.aload_n 0, 1) := dd_get dm_X9_climb_0 8 rfl
theorem dX9_climb_14 : decode cX9_climb 14 = .ok (.invokevirtual 284, 3) := dd_get dm_X9_climb_0 9 rfl
theorem dX9_climb_17 : decode cX9_climb 17 = .ok (.ifCond .eq 6, 3) := dd_get dm_X9_climb_0 10 rfl
theorem dX9_climb_20 : decode cX9_climb 20 = .ok (.bipush (-4), 2) := dd_get dm_X9_climb_0 11 rfl
theorem dX9_climb_22 : decode cX9_climb 22 = .ok (.ireturn, 1) := dd_get dm_X9_climb_0 12 rfl
theorem dX9_climb_23 : decode cX9_climb 23 = .ok (.aload_n 0, 1) := dd_get dm_X9_climb_0 13 rfl
theorem dX9_climb_24 : decode cX9_climb 24 = .ok (.invokevirtual 287, 3) := dd_get dm_X9_climb_0 14 rfl
theorem dX9_climb_27 : decode cX9_climb 27 = .ok (.iconst 0, 1) := dd_get dm_X9_climb_0 15 rfl
theorem dX9_climb_28 : decode cX9_climb 28 = .ok (.istore_n 2, 1) := dd_get dm_X9_climb_0 16 rfl
theorem dX9_climb_29 : decode cX9_climb 29 = .ok (.iload_n 2, 1) := dd_get dm_X9_climb_0 17 rfl
theorem dX9_climb_30 : decode cX9_climb 30 = .ok (.iload_n 1, 1) := dd_get dm_X9_climb_0 18 rfl
theorem dX9_climb_31 : decode cX9_climb 31 = .ok (.if_icmp .ge 44, 3) := dd_get dm_X9_climb_0 19 rfl
theorem dX9_climb_34 : decode cX9_climb 34 = .ok (.aload_n 0, 1) := dd_get dm_X9_climb_0 20 rfl
theorem dX9_climb_35 : decode cX9_climb 35 = .ok (.getfield 60, 3) := dd_get dm_X9_climb_0 21 rfl
theorem dX9_climb_38 : decode cX9_climb 38 = .ok (.invokevirtual 290, 3) := dd_get dm_X9_climb_0 22 rfl
theorem dX9_climb_41 : decode cX9_climb 41 = .ok (.ldc2_w 294, 3) := dd_get dm_X9_climb_0 23 rfl
theorem dX9_climb_44 : decode cX9_climb 44 = .ok (.lcmp, 1) := dd_get dm_X9_climb_0 24 rfl
theorem dX9_climb_45 : decode cX9_climb 45 = .ok (.ifCond .ge 30, 3) := dd_get dm_X9_climb_0 25 rfl
theorem dX9_climb_48 : decode cX9_climb 48 = .ok (.aload_n 0, 1) := dd_get dm_X9_climb_0 26 rfl
theorem dX9_climb_49 : decode cX9_climb 49 = .ok (.getfield 60, 3) := dd_get dm_X9_climb_0 27 rfl
theorem dX9_climb_52 : decode cX9_climb 52 = .ok (.invokevirtual 296, 3) := dd_get dm_X9_climb_0 28 rfl
theorem dX9_climb_55 : decode cX9_climb 55 = .ok (.aload_n 0, 1) := dd_get dm_X9_climb_0 29 rfl
theorem dX9_climb_56 : decode cX9_climb 56 = .ok (.getfield 60, 3) := dd_get dm_X9_climb_0 30 rfl
theorem dX9_climb_59 : decode cX9_climb 59 = .ok (.invokevirtual 299, 3) := dd_get dm_X9_climb_0 31 rfl
theorem dX9_climb_62 : decode cX9_climb 62 = .ok (.aload_n 0, 1) := dd_get dm_X9_climb_0 32 rfl
theorem dX9_climb_63 : decode cX9_climb 63 = .ok (.getfield 60, 3) := dd_get dm_X9_climb_0 33 rfl
theorem dX9_climb_66 : decode cX9_climb 66 = .ok (.invokevirtual 302, 3) := dd_get dm_X9_climb_0 34 rfl
theorem dX9_climb_69 : decode cX9_climb 69 = .ok (.iinc 2 1, 3) := dd_get dm_X9_climb_0 35 rfl
theorem dX9_climb_72 : decode cX9_climb 72 = .ok (.goto (-43), 3) := dd_get dm_X9_climb_0 36 rfl
theorem dX9_climb_75 : decode cX9_climb 75 = .ok (.iload_n 2, 1) := dd_get dm_X9_climb_0 37 rfl
theorem dX9_climb_76 : decode cX9_climb 76 = .ok (.ireturn, 1) := dd_get dm_X9_climb_0 38 rfl
theorem dm_X9_bound_0 : (([(0, .aload_n 0, 1), (1, .invokevirtual 284, 3), (4, .ifCond .eq 7, 3), (7, .ldc2_w 305, 3), (10, .lreturn, 1), (11, .aload_n 0, 1), (12, .invokevirtual 287, 3), (15, .aload_n 0, 1), (16, .getfield 60, 3), (19, .invokevirtual 290, 3), (22, .lreturn, 1)] : List (Nat × Instr × Nat)).all fun q => decide (decode cX9_bound q.1 = .ok (q.2.1, q.2.2))) = true := by decide +kernel
theorem dX9_bound_0 : decode cX9_bound 0 = .ok (.aload_n 0, 1) := dd_get dm_X9_bound_0 0 rfl
theorem dX9_bound_1 : decode cX9_bound 1 = .ok (.invokevirtual 284, 3) := dd_get dm_X9_bound_0 1 rfl
theorem dX9_bound_4 : decode cX9_bound 4 = .ok (.ifCond .eq 7, 3) := dd_get dm_X9_bound_0 2 rfl
theorem dX9_bound_7 : decode cX9_bound 7 = .ok (.ldc2_w 305, 3) := dd_get dm_X9_bound_0 3 rfl
theorem dX9_bound_10 : decode cX9_bound 10 = .ok (.lreturn, 1) := dd_get dm_X9_bound_0 4 rfl
theorem dX9_bound_11 : decode cX9_bound 11 = .ok (.aload_n 0, 1) := dd_get dm_X9_bound_0 5 rfl
theorem dX9_bound_12 : decode cX9_bound 12 = .ok (.invokevirtual 287, 3) := dd_get dm_X9_bound_0 6 rfl
theorem dX9_bound_15 : decode cX9_bound 15 = .ok (.aload_n 0, 1) := dd_get dm_X9_bound_0 7 rfl
theorem dX9_bound_16 : decode cX9_bound 16 = .ok (.getfield 60, 3) := dd_get dm_X9_bound_0 8 rfl
theorem dX9_bound_19 : decode cX9_bound 19 = .ok (.invokevirtual 290, 3) := dd_get dm_X9_bound_0 9 rfl
theorem dX9_bound_22 : decode cX9_bound 22 = .ok (.lreturn, 1) := dd_get dm_X9_bound_0 10 rfl
theorem dm_X9_taken_0 : (([(0, .aload_n 0, 1), (1, .invokevirtual 284, 3), (4, .ifCond .eq 5, 3), (7, .iconst (-1), 1), (8, .ireturn, 1), (9, .aload_n 0, 1), (10, .invokevirtual 287, 3), (13, .iload_n 1, 1), (14, .ifCond .lt 26, 3), (17, .iload_n 1, 1), (18, .aload_n 0, 1), (19, .getfield 60, 3), (22, .getfield 307, 3), (25, .if_icmp .ge 15, 3), (28, .aload_n 0, 1), (29, .getfield 60, 3), (32, .getfield 310, 3), (35, .iload_n 1, 1), (36, .iaload, 1), (37, .goto 4, 3), (40, .iconst (-1), 1), (41, .ireturn, 1)] : List (Nat × Instr × Nat)).all fun q => decide (decode cX9_taken q.1 = .ok (q.2.1, q.2.2))) = true := by decide +kernel
theorem dX9_taken_0 : decode cX9_taken 0 = .ok (.aload_n 0, 1) := dd_get dm_X9_taken_0 0 rfl
theorem dX9_taken_1 : decode cX9_taken 1 = .ok (.invokevirtual 284, 3) := dd_get dm_X9_taken_0 1 rfl
theorem dX9_taken_4 : decode cX9_taken 4 = .ok (.ifCond .eq 5, 3) := dd_get dm_X9_taken_0 2 rfl
theorem dX9_taken_7 : decode cX9_taken 7 = .ok (.iconst (-1), 1) := dd_get dm_X9_taken_0 3 rfl
theorem dX9_taken_8 : decode cX9_taken 8 = .ok (.ireturn, 1) := dd_get dm_X9_taken_0 4 rfl
theorem dX9_taken_9 : decode cX9_taken 9 = .ok (.aload_n 0, 1) := dd_get dm_X9_taken_0 5 rfl
theorem dX9_taken_10 : decode cX9_taken 10 = .ok (.invokevirtual 287, 3) := dd_get dm_X9_taken_0 6 rfl
theorem dX9_taken_13 : decode cX9_taken 13 = .ok (.iload_n 1, 1) := dd_get dm_X9_taken_0 7 rfl
theorem dX9_taken_14 : decode cX9_taken 14 = .ok (.ifCond .lt 26, 3) := dd_get dm_X9_taken_0 8 rfl
theorem dX9_taken_17 : decode cX9_taken 17 = .ok (.iload_n 1, 1) := dd_get dm_X9_taken_0 9 rfl
theorem dX9_taken_18 : decode cX9_taken 18 = .ok (.aload_n 0, 1) := dd_get dm_X9_taken_0 10 rfl
theorem dX9_taken_19 : decode cX9_taken 19 = .ok (.getfield 60, 3) := dd_get dm_X9_taken_0 11 rfl
theorem dX9_taken_22 : decode cX9_taken 22 = .ok (.getfield 307, 3) := dd_get dm_X9_taken_0 12 rfl
theorem dX9_taken_25 : decode cX9_taken 25 = .ok (.if_icmp .ge 15, 3) := dd_get dm_X9_taken_0 13 rfl
theorem dX9_taken_28 : decode cX9_taken 28 = .ok (.aload_n 0, 1) := dd_get dm_X9_taken_0 14 rfl
theorem dX9_taken_29 : decode cX9_taken 29 = .ok (.getfield 60, 3) := dd_get dm_X9_taken_0 15 rfl
theorem dX9_taken_32 : decode cX9_taken 32 = .ok (.getfield 310, 3) := dd_get dm_X9_taken_0 16 rfl
theorem dX9_taken_35 : decode cX9_taken 35 = .ok (.iload_n 1, 1) := dd_get dm_X9_taken_0 17 rfl
theorem dX9_taken_36 : decode cX9_taken 36 = .ok (.iaload, 1) := dd_get dm_X9_taken_0 18 rfl
theorem dX9_taken_37 : decode cX9_taken 37 = .ok (.goto 4, 3) := dd_get dm_X9_taken_0 19 rfl
theorem dX9_taken_40 : decode cX9_taken 40 = .ok (.iconst (-1), 1) := dd_get dm_X9_taken_0 20 rfl
theorem dX9_taken_41 : decode cX9_taken 41 = .ok (.ireturn, 1) := dd_get dm_X9_taken_0 21 rfl
theorem dm_X9_prove_0 : (([(0, .iload_n 1, 1), (1, .ifCond .ge 5, 3), (4, .iconst (-1), 1), (5, .ireturn, 1), (6, .aload_n 0, 1), (7, .invokevirtual 284, 3), (10, .ifCond .eq 6, 3), (13, .bipush (-4), 2), (15, .ireturn, 1), (16, .aload_n 0, 1), (17, .invokevirtual 313, 3), (20, .aload_n 0, 1), (21, .getfield 69, 3), (24, .aload_n 0, 1), (25, .getfield 80, 3), (28, .iload_n 1, 1), (29, .invokevirtual 316, 3), (32, .ifCond .ne 6, 3), (35, .bipush (-9), 2), (37, .ireturn, 1), (38, .aload_n 0, 1), (39, .getfield 76, 3), (42, .aload_n 0, 1), (43, .getfield 80, 3), (46, .invokevirtual 319, 3), (49, .aload_n 0, 1), (50, .getfield 76, 3), (53, .getfield 206, 3), (56, .ireturn, 1)] : List (Nat × Instr × Nat)).all fun q => decide (decode cX9_prove q.1 = .ok (q.2.1, q.2.2))) = true := by decide +kernel
theorem dX9_prove_0 : decode cX9_prove 0 = .ok (.iload_n 1, 1) := dd_get dm_X9_prove_0 0 rfl
theorem dX9_prove_1 : decode cX9_prove 1 = .ok (.ifCond .ge 5, 3) := dd_get dm_X9_prove_0 1 rfl
theorem dX9_prove_4 : decode cX9_prove 4 = .ok (.iconst (-1), 1) := dd_get dm_X9_prove_0 2 rfl
theorem dX9_prove_5 : decode cX9_prove 5 = .ok (.ireturn, 1) := dd_get dm_X9_prove_0 3 rfl
theorem dX9_prove_6 : decode cX9_prove 6 = .ok (.aload_n 0, 1) := dd_get dm_X9_prove_0 4 rfl
theorem dX9_prove_7 : decode cX9_prove 7 = .ok (.invokevirtual 284, 3) := dd_get dm_X9_prove_0 5 rfl
theorem dX9_prove_10 : decode cX9_prove 10 = .ok (.ifCond .eq 6, 3) := dd_get dm_X9_prove_0 6 rfl
theorem dX9_prove_13 : decode cX9_prove 13 = .ok (.bipush (-4), 2) := dd_get dm_X9_prove_0 7 rfl
theorem dX9_prove_15 : decode cX9_prove 15 = .ok (.ireturn, 1) := dd_get dm_X9_prove_0 8 rfl
theorem dX9_prove_16 : decode cX9_prove 16 = .ok (.aload_n 0, 1) := dd_get dm_X9_prove_0 9 rfl
theorem dX9_prove_17 : decode cX9_prove 17 = .ok (.invokevirtual 313, 3) := dd_get dm_X9_prove_0 10 rfl
theorem dX9_prove_20 : decode cX9_prove 20 = .ok (.aload_n 0, 1) := dd_get dm_X9_prove_0 11 rfl
theorem dX9_prove_21 : decode cX9_prove 21 = .ok (.getfield 69, 3) := dd_get dm_X9_prove_0 12 rfl
theorem dX9_prove_24 : decode cX9_prove 24 = .ok (.aload_n 0, 1) := dd_get dm_X9_prove_0 13 rfl
theorem dX9_prove_25 : decode cX9_prove 25 = .ok (.getfield 80, 3) := dd_get dm_X9_prove_0 14 rfl
theorem dX9_prove_28 : decode cX9_prove 28 = .ok (.iload_n 1, 1) := dd_get dm_X9_prove_0 15 rfl
theorem dX9_prove_29 : decode cX9_prove 29 = .ok (.invokevirtual 316, 3) := dd_get dm_X9_prove_0 16 rfl
theorem dX9_prove_32 : decode cX9_prove 32 = .ok (.ifCond .ne 6, 3) := dd_get dm_X9_prove_0 17 rfl
theorem dX9_prove_35 : decode cX9_prove 35 = .ok (.bipush (-9), 2) := dd_get dm_X9_prove_0 18 rfl
theorem dX9_prove_37 : decode cX9_prove 37 = .ok (.ireturn, 1) := dd_get dm_X9_prove_0 19 rfl
theorem dX9_prove_38 : decode cX9_prove 38 = .ok (.aload_n 0, 1) := dd_get dm_X9_prove_0 20 rfl
theorem dX9_prove_39 : decode cX9_prove 39 = .ok (.getfield 76, 3) := dd_get dm_X9_prove_0 21 rfl
theorem dX9_prove_42 : decode cX9_prove 42 = .ok (.aload_n 0, 1) := dd_get dm_X9_prove_0 22 rfl
theorem dX9_prove_43 : decode cX9_prove 43 = .ok (.getfield 80, 3) := dd_get dm_X9_prove_0 23 rfl
theorem dX9_prove_46 : decode cX9_prove 46 = .ok (.invokevirtual 319, 3) := dd_get dm_X9_prove_0 24 rfl
theorem dX9_prove_49 : decode cX9_prove 49 = .ok (.aload_n 0, 1) := dd_get dm_X9_prove_0 25 rfl
theorem dX9_prove_50 : decode cX9_prove 50 = .ok (.getfield 76, 3) := dd_get dm_X9_prove_0 26 rfl
theorem dX9_prove_53 : decode cX9_prove 53 = .ok (.getfield 206, 3) := dd_get dm_X9_prove_0 27 rfl
theorem dX9_prove_56 : decode cX9_prove 56 = .ok (.ireturn, 1) := dd_get dm_X9_prove_0 28 rfl
theorem dm_X9_line_0 : (([(0, .iload_n 1, 1), (1, .invokestatic 322, 3), (4, .ifCond .ne 5, 3), (7, .iconst (-1), 1), (8, .ireturn, 1), (9, .aload_n 0, 1), (10, .getfield 76, 3), (13, .getfield 206, 3), (16, .sipush 400, 3), (19, .if_icmp .lt 6, 3), (22, .bipush (-2), 2), (24, .ireturn, 1), (25, .aload_n 0, 1), (26, .getfield 76, 3), (29, .iload_n 1, 1), (30, .iload_n 2, 1), (31, .iload_n 3, 1), (32, .invokevirtual 325, 3), (35, .aload_n 0, 1), (36, .getfield 76, 3), (39, .getfield 206, 3), (42, .ireturn, 1)] : List (Nat × Instr × Nat)).all fun q => decide (decode cX9_line q.1 = .ok (q.2.1, q.2.2))) = true := by decide +kernel
theorem dX9_line_0 : decode cX9_line 0 = .ok (.iload_n 1, 1) := dd_get dm_X9_line_0 0 rfl
theorem dX9_line_1 : decode cX9_line 1 = .ok (.invokestatic 322, 3) := dd_get dm_X9_line_0 1 rfl
theorem dX9_line_4 : decode cX9_line 4 = .ok (.ifCond .ne 5, 3) := dd_get dm_X9_line_0 2 rfl
theorem dX9_line_7 : decode cX9_line 7 = .ok (.iconst (-1), 1) := dd_get dm_X9_line_0 3 rfl
theorem dX9_line_8 : decode cX9_line 8 = .ok (.ireturn, 1) := dd_get dm_X9_line_0 4 rfl
theorem dX9_line_9 : decode cX9_line 9 = .ok (.aload_n 0, 1) := dd_get dm_X9_line_0 5 rfl
theorem dX9_line_10 : decode cX9_line 10 = .ok (.getfield 76, 3) := dd_get dm_X9_line_0 6 rfl
theorem dX9_line_13 : decode cX9_line 13 = .ok (.getfield 206, 3) := dd_get dm_X9_line_0 7 rfl
theorem dX9_line_16 : decode cX9_line 16 = .ok (.sipush 400, 3) := dd_get dm_X9_line_0 8 rfl
theorem dX9_line_19 : decode cX9_line 19 = .ok (.if_icmp .lt 6, 3) := dd_get dm_X9_line_0 9 rfl
theorem dX9_line_22 : decode cX9_line 22 = .ok (.bipush (-2), 2) := dd_get dm_X9_line_0 10 rfl
theorem dX9_line_24 : decode cX9_line 24 = .ok (.ireturn, 1) := dd_get dm_X9_line_0 11 rfl
theorem dX9_line_25 : decode cX9_line 25 = .ok (.aload_n 0, 1) := dd_get dm_X9_line_0 12 rfl
theorem dX9_line_26 : decode cX9_line 26 = .ok (.getfield 76, 3) := dd_get dm_X9_line_0 13 rfl
theorem dX9_line_29 : decode cX9_line 29 = .ok (.iload_n 1, 1) := dd_get dm_X9_line_0 14 rfl
theorem dX9_line_30 : decode cX9_line 30 = .ok (.iload_n 2, 1) := dd_get dm_X9_line_0 15 rfl
theorem dX9_line_31 : decode cX9_line 31 = .ok (.iload_n 3, 1) := dd_get dm_X9_line_0 16 rfl
theorem dX9_line_32 : decode cX9_line 32 = .ok (.invokevirtual 325, 3) := dd_get dm_X9_line_0 17 rfl
theorem dX9_line_35 : decode cX9_line 35 = .ok (.aload_n 0, 1) := dd_get dm_X9_line_0 18 rfl
theorem dX9_line_36 : decode cX9_line 36 = .ok (.getfield 76, 3) := dd_get dm_X9_line_0 19 rfl
theorem dX9_line_39 : decode cX9_line 39 = .ok (.getfield 206, 3) := dd_get dm_X9_line_0 20 rfl
theorem dX9_line_42 : decode cX9_line 42 = .ok (.ireturn, 1) := dd_get dm_X9_line_0 21 rfl
theorem dm_X9_alter_0 : (([(0, .aload_n 0, 1), (1, .getfield 76, 3), (4, .iload_n 1, 1), (5, .invokevirtual 327, 3), (8, .ifCond .eq 10, 3), (11, .iload_n 2, 1), (12, .invokestatic 322, 3), (15, .ifCond .ne 5, 3), (18, .iconst (-1), 1), (19, .ireturn, 1), (20, .aload_n 0, 1), (21, .getfield 76, 3), (24, .iload_n 1, 1), (25, .iload_n 2, 1), (26, .iload_n 3, 1), (27, .iload 4, 2), (29, .invokevirtual 330, 3), (32, .iconst 1, 1), (33, .ireturn, 1)] : List (Nat × Instr × Nat)).all fun q => decide (decode cX9_alter q.1 = .ok (q.2.1, q.2.2))) = true := by decide +kernel
theorem dX9_alter_0 : decode cX9_alter 0 = .ok (.aload_n 0, 1) := dd_get dm_X9_alter_0 0 rfl
theorem dX9_alter_1 : decode cX9_alter 1 = .ok (.getfield 76, 3) := dd_get dm_X9_alter_0 1 rfl
theorem dX9_alter_4 : decode cX9_alter 4 = .ok (.iload_n 1, 1) := dd_get dm_X9_alter_0 2 rfl
theorem dX9_alter_5 : decode cX9_alter 5 = .ok (.invokevirtual 327, 3) := dd_get dm_X9_alter_0 3 rfl
theorem dX9_alter_8 : decode cX9_alter 8 = .ok (.ifCond .eq 10, 3) := dd_get dm_X9_alter_0 4 rfl
theorem dX9_alter_11 : decode cX9_alter 11 = .ok (.iload_n 2, 1) := dd_get dm_X9_alter_0 5 rfl
theorem dX9_alter_12 : decode cX9_alter 12 = .ok (.invokestatic 322, 3) := dd_get dm_X9_alter_0 6 rfl
theorem dX9_alter_15 : decode cX9_alter 15 = .ok (.ifCond .ne 5, 3) := dd_get dm_X9_alter_0 7 rfl
theorem dX9_alter_18 : decode cX9_alter 18 = .ok (.iconst (-1), 1) := dd_get dm_X9_alter_0 8 rfl
theorem dX9_alter_19 : decode cX9_alter 19 = .ok (.ireturn, 1) := dd_get dm_X9_alter_0 9 rfl
theorem dX9_alter_20 : decode cX9_alter 20 = .ok (.aload_n 0, 1) := dd_get dm_X9_alter_0 10 rfl
theorem dX9_alter_21 : decode cX9_alter 21 = .ok (.getfield 76, 3) := dd_get dm_X9_alter_0 11 rfl
theorem dX9_alter_24 : decode cX9_alter 24 = .ok (.iload_n 1, 1) := dd_get dm_X9_alter_0 12 rfl
theorem dX9_alter_25 : decode cX9_alter 25 = .ok (.iload_n 2, 1) := dd_get dm_X9_alter_0 13 rfl
theorem dX9_alter_26 : decode cX9_alter 26 = .ok (.iload_n 3, 1) := dd_get dm_X9_alter_0 14 rfl
theorem dX9_alter_27 : decode cX9_alter 27 = .ok (.iload 4, 2) := dd_get dm_X9_alter_0 15 rfl
theorem dX9_alter_29 : decode cX9_alter 29 = .ok (.invokevirtual 330, 3) := dd_get dm_X9_alter_0 16 rfl
theorem dX9_alter_32 : decode cX9_alter 32 = .ok (.iconst 1, 1) := dd_get dm_X9_alter_0 17 rfl
theorem dX9_alter_33 : decode cX9_alter 33 = .ok (.ireturn, 1) := dd_get dm_X9_alter_0 18 rfl
theorem dm_X9_cut_0 : (([(0, .iload_n 1, 1), (1, .ifCond .lt 14, 3), (4, .iload_n 1, 1), (5, .aload_n 0, 1), (6, .getfield 76, 3), (9, .getfield 206, 3), (12, .if_icmp .le 5, 3), (15, .iconst (-1), 1), (16, .ireturn, 1), (17, .aload_n 0, 1), (18, .getfield 76, 3), (21, .iload_n 1, 1), (22, .putfield 206, 3), (25, .iload_n 1, 1), (26, .ireturn, 1)] : List (Nat × Instr × Nat)).all fun q => decide (decode cX9_cut q.1 = .ok (q.2.1, q.2.2))) = true := by decide +kernel
theorem dX9_cut_0 : decode cX9_cut 0 = .ok (.iload_n 1, 1) := dd_get dm_X9_cut_0 0 rfl
theorem dX9_cut_1 : decode cX9_cut 1 = .ok (.ifCond .lt 14, 3) := dd_get dm_X9_cut_0 1 rfl
theorem dX9_cut_4 : decode cX9_cut 4 = .ok (.iload_n 1, 1) := dd_get dm_X9_cut_0 2 rfl
theorem dX9_cut_5 : decode cX9_cut 5 = .ok (.aload_n 0, 1) := dd_get dm_X9_cut_0 3 rfl
theorem dX9_cut_6 : decode cX9_cut 6 = .ok (.getfield 76, 3) := dd_get dm_X9_cut_0 4 rfl
theorem dX9_cut_9 : decode cX9_cut 9 = .ok (.getfield 206, 3) := dd_get dm_X9_cut_0 5 rfl
theorem dX9_cut_12 : decode cX9_cut 12 = .ok (.if_icmp .le 5, 3) := dd_get dm_X9_cut_0 6 rfl
theorem dX9_cut_15 : decode cX9_cut 15 = .ok (.iconst (-1), 1) := dd_get dm_X9_cut_0 7 rfl
theorem dX9_cut_16 : decode cX9_cut 16 = .ok (.ireturn, 1) := dd_get dm_X9_cut_0 8 rfl
theorem dX9_cut_17 : decode cX9_cut 17 = .ok (.aload_n 0, 1) := dd_get dm_X9_cut_0 9 rfl
theorem dX9_cut_18 : decode cX9_cut 18 = .ok (.getfield 76, 3) := dd_get dm_X9_cut_0 10 rfl
theorem dX9_cut_21 : decode cX9_cut 21 = .ok (.iload_n 1, 1) := dd_get dm_X9_cut_0 11 rfl
theorem dX9_cut_22 : decode cX9_cut 22 = .ok (.putfield 206, 3) := dd_get dm_X9_cut_0 12 rfl
theorem dX9_cut_25 : decode cX9_cut 25 = .ok (.iload_n 1, 1) := dd_get dm_X9_cut_0 13 rfl
theorem dX9_cut_26 : decode cX9_cut 26 = .ok (.ireturn, 1) := dd_get dm_X9_cut_0 14 rfl
theorem dm_X9_shown_0 : (([(0, .aload_n 0, 1), (1, .getfield 76, 3), (4, .iload_n 1, 1), (5, .invokevirtual 327, 3), (8, .ifCond .ne 6, 3), (11, .ldc 191, 2), (13, .ireturn, 1), (14, .iload_n 2, 1), (15, .tableswitch 55 0 2 #[25, 35, 45], 25), (40, .aload_n 0, 1), (41, .getfield 76, 3), (44, .getfield 333, 3), (47, .iload_n 1, 1), (48, .iaload, 1), (49, .ireturn, 1), (50, .aload_n 0, 1), (51, .getfield 76, 3), (54, .getfield 336, 3), (57, .iload_n 1, 1), (58, .iaload, 1), (59, .ireturn, 1), (60, .aload_n 0, 1), (61, .getfield 76, 3), (64, .getfield 339, 3), (67, .iload_n 1, 1), (68, .iaload, 1), (69, .ireturn, 1), (70, .ldc 191, 2), (72, .ireturn, 1)] : List (Nat × Instr × Nat)).all fun q => decide (decode cX9_shown q.1 = .ok (q.2.1, q.2.2))) = true := by decide +kernel
theorem dX9_shown_0 : decode cX9_shown 0 = .ok (.aload_n 0, 1) := dd_get dm_X9_shown_0 0 rfl
theorem dX9_shown_1 : decode cX9_shown 1 = .ok (.getfield 76, 3) := dd_get dm_X9_shown_0 1 rfl
theorem dX9_shown_4 : decode cX9_shown 4 = .ok (.iload_n 1, 1) := dd_get dm_X9_shown_0 2 rfl
theorem dX9_shown_5 : decode cX9_shown 5 = .ok (.invokevirtual 327, 3) := dd_get dm_X9_shown_0 3 rfl
theorem dX9_shown_8 : decode cX9_shown 8 = .ok (.ifCond .ne 6, 3) := dd_get dm_X9_shown_0 4 rfl
theorem dX9_shown_11 : decode cX9_shown 11 = .ok (.ldc 191, 2) := dd_get dm_X9_shown_0 5 rfl
theorem dX9_shown_13 : decode cX9_shown 13 = .ok (.ireturn, 1) := dd_get dm_X9_shown_0 6 rfl
theorem dX9_shown_14 : decode cX9_shown 14 = .ok (.iload_n 2, 1) := dd_get dm_X9_shown_0 7 rfl
theorem dX9_shown_15 : decode cX9_shown 15 = .ok (.tableswitch 55 0 2 #[25, 35, 45], 25) := dd_get dm_X9_shown_0 8 rfl
theorem dX9_shown_40 : decode cX9_shown 40 = .ok (.aload_n 0, 1) := dd_get dm_X9_shown_0 9 rfl
theorem dX9_shown_41 : decode cX9_shown 41 = .ok (.getfield 76, 3) := dd_get dm_X9_shown_0 10 rfl
theorem dX9_shown_44 : decode cX9_shown 44 = .ok (.getfield 333, 3) := dd_get dm_X9_shown_0 11 rfl
theorem dX9_shown_47 : decode cX9_shown 47 = .ok (.iload_n 1, 1) := dd_get dm_X9_shown_0 12 rfl
theorem dX9_shown_48 : decode cX9_shown 48 = .ok (.iaload, 1) := dd_get dm_X9_shown_0 13 rfl
theorem dX9_shown_49 : decode cX9_shown 49 = .ok (.ireturn, 1) := dd_get dm_X9_shown_0 14 rfl
theorem dX9_shown_50 : decode cX9_shown 50 = .ok (.aload_n 0, 1) := dd_get dm_X9_shown_0 15 rfl
theorem dX9_shown_51 : decode cX9_shown 51 = .ok (.getfield 76, 3) := dd_get dm_X9_shown_0 16 rfl
theorem dX9_shown_54 : decode cX9_shown 54 = .ok (.getfield 336, 3) := dd_get dm_X9_shown_0 17 rfl
theorem dX9_shown_57 : decode cX9_shown 57 = .ok (.iload_n 1, 1) := dd_get dm_X9_shown_0 18 rfl
theorem dX9_shown_58 : decode cX9_shown 58 = .ok (.iaload, 1) := dd_get dm_X9_shown_0 19 rfl
theorem dX9_shown_59 : decode cX9_shown 59 = .ok (.ireturn, 1) := dd_get dm_X9_shown_0 20 rfl
theorem dX9_shown_60 : decode cX9_shown 60 = .ok (.aload_n 0, 1) := dd_get dm_X9_shown_0 21 rfl
theorem dX9_shown_61 : decode cX9_shown 61 = .ok (.getfield 76, 3) := dd_get dm_X9_shown_0 22 rfl
theorem dX9_shown_64 : decode cX9_shown 64 = .ok (.getfield 339, 3) := dd_get dm_X9_shown_0 23 rfl
theorem dX9_shown_67 : decode cX9_shown 67 = .ok (.iload_n 1, 1) := dd_get dm_X9_shown_0 24 rfl
theorem dX9_shown_68 : decode cX9_shown 68 = .ok (.iaload, 1) := dd_get dm_X9_shown_0 25 rfl
theorem dX9_shown_69 : decode cX9_shown 69 = .ok (.ireturn, 1) := dd_get dm_X9_shown_0 26 rfl
theorem dX9_shown_70 : decode cX9_shown 70 = .ok (.ldc 191, 2) := dd_get dm_X9_shown_0 27 rfl
theorem dX9_shown_72 : decode cX9_shown 72 = .ok (.ireturn, 1) := dd_get dm_X9_shown_0 28 rfl
theorem dm_X9_check_0 : (([(0, .iload_n 1, 1), (1, .ifCond .ge 6, 3), (4, .bipush (-2), 2), (6, .ireturn, 1), (7, .aload_n 0, 1), (8, .invokevirtual 284, 3), (11, .ifCond .eq 6, 3), (14, .bipush (-4), 2), (16, .ireturn, 1), (17, .aload_n 0, 1), (18, .invokevirtual 313, 3), (21, .aload_n 0, 1), (22, .getfield 69, 3), (25, .aload_n 0, 1), (26, .getfield 76, 3), (29, .iload_n 1, 1), (30, .invokevirtual 342, 3), (33, .ireturn, 1)] : List (Nat × Instr × Nat)).all fun q => decide (decode cX9_check q.1 = .ok (q.2.1, q.2.2))) = true := by decide +kernel
theorem dX9_check_0 : decode cX9_check 0 = .ok (.iload_n 1, 1) := dd_get dm_X9_check_0 0 rfl
theorem dX9_check_1 : decode cX9_check 1 = .ok (.ifCond .ge 6, 3) := dd_get dm_X9_check_0 1 rfl
theorem dX9_check_4 : decode cX9_check 4 = .ok (.bipush (-2), 2) := dd_get dm_X9_check_0 2 rfl
theorem dX9_check_6 : decode cX9_check 6 = .ok (.ireturn, 1) := dd_get dm_X9_check_0 3 rfl
theorem dX9_check_7 : decode cX9_check 7 = .ok (.aload_n 0, 1) := dd_get dm_X9_check_0 4 rfl
theorem dX9_check_8 : decode cX9_check 8 = .ok (.invokevirtual 284, 3) := dd_get dm_X9_check_0 5 rfl
theorem dX9_check_11 : decode cX9_check 11 = .ok (.ifCond .eq 6, 3) := dd_get dm_X9_check_0 6 rfl
theorem dX9_check_14 : decode cX9_check 14 = .ok (.bipush (-4), 2) := dd_get dm_X9_check_0 7 rfl
theorem dX9_check_16 : decode cX9_check 16 = .ok (.ireturn, 1) := dd_get dm_X9_check_0 8 rfl
theorem dX9_check_17 : decode cX9_check 17 = .ok (.aload_n 0, 1) := dd_get dm_X9_check_0 9 rfl
theorem dX9_check_18 : decode cX9_check 18 = .ok (.invokevirtual 313, 3) := dd_get dm_X9_check_0 10 rfl
theorem dX9_check_21 : decode cX9_check 21 = .ok (.aload_n 0, 1) := dd_get dm_X9_check_0 11 rfl
theorem dX9_check_22 : decode cX9_check 22 = .ok (.getfield 69, 3) := dd_get dm_X9_check_0 12 rfl
theorem dX9_check_25 : decode cX9_check 25 = .ok (.aload_n 0, 1) := dd_get dm_X9_check_0 13 rfl
theorem dX9_check_26 : decode cX9_check 26 = .ok (.getfield 76, 3) := dd_get dm_X9_check_0 14 rfl
theorem dX9_check_29 : decode cX9_check 29 = .ok (.iload_n 1, 1) := dd_get dm_X9_check_0 15 rfl
theorem dX9_check_30 : decode cX9_check 30 = .ok (.invokevirtual 342, 3) := dd_get dm_X9_check_0 16 rfl
theorem dX9_check_33 : decode cX9_check 33 = .ok (.ireturn, 1) := dd_get dm_X9_check_0 17 rfl
theorem dm_X9_isCrossing_0 : (([(0, .iload_n 0, 1), (1, .ifCond .lt 13, 3), (4, .iload_n 0, 1), (5, .bipush 40, 2), (7, .if_icmp .ge 7, 3), (10, .iconst 1, 1), (11, .goto 4, 3), (14, .iconst 0, 1), (15, .ireturn, 1)] : List (Nat × Instr × Nat)).all fun q => decide (decode cX9_isCrossing q.1 = .ok (q.2.1, q.2.2))) = true := by decide +kernel
theorem dX9_isCrossing_0 : decode cX9_isCrossing 0 = .ok (.iload_n 0, 1) := dd_get dm_X9_isCrossing_0 0 rfl
theorem dX9_isCrossing_1 : decode cX9_isCrossing 1 = .ok (.ifCond .lt 13, 3) := dd_get dm_X9_isCrossing_0 1 rfl
theorem dX9_isCrossing_4 : decode cX9_isCrossing 4 = .ok (.iload_n 0, 1) := dd_get dm_X9_isCrossing_0 2 rfl
theorem dX9_isCrossing_5 : decode cX9_isCrossing 5 = .ok (.bipush 40, 2) := dd_get dm_X9_isCrossing_0 3 rfl
theorem dX9_isCrossing_7 : decode cX9_isCrossing 7 = .ok (.if_icmp .ge 7, 3) := dd_get dm_X9_isCrossing_0 4 rfl
theorem dX9_isCrossing_10 : decode cX9_isCrossing 10 = .ok (.iconst 1, 1) := dd_get dm_X9_isCrossing_0 5 rfl
theorem dX9_isCrossing_11 : decode cX9_isCrossing 11 = .ok (.goto 4, 3) := dd_get dm_X9_isCrossing_0 6 rfl
theorem dX9_isCrossing_14 : decode cX9_isCrossing 14 = .ok (.iconst 0, 1) := dd_get dm_X9_isCrossing_0 7 rfl
theorem dX9_isCrossing_15 : decode cX9_isCrossing 15 = .ok (.ireturn, 1) := dd_get dm_X9_isCrossing_0 8 rfl
theorem dm_X9_isLength_0 : (([(0, .lload_n 0, 1), (1, .lconst 1, 1), (2, .lcmp, 1), (3, .ifCond .lt 15, 3), (6, .lload_n 0, 1), (7, .ldc2_w 346, 3), (10, .lcmp, 1), (11, .ifCond .gt 7, 3), (14, .iconst 1, 1), (15, .goto 4, 3), (18, .iconst 0, 1), (19, .ireturn, 1)] : List (Nat × Instr × Nat)).all fun q => decide (decode cX9_isLength q.1 = .ok (q.2.1, q.2.2))) = true := by decide +kernel
theorem dX9_isLength_0 : decode cX9_isLength 0 = .ok (.lload_n 0, 1) := dd_get dm_X9_isLength_0 0 rfl
theorem dX9_isLength_1 : decode cX9_isLength 1 = .ok (.lconst 1, 1) := dd_get dm_X9_isLength_0 1 rfl
theorem dX9_isLength_2 : decode cX9_isLength 2 = .ok (.lcmp, 1) := dd_get dm_X9_isLength_0 2 rfl
theorem dX9_isLength_3 : decode cX9_isLength 3 = .ok (.ifCond .lt 15, 3) := dd_get dm_X9_isLength_0 3 rfl
theorem dX9_isLength_6 : decode cX9_isLength 6 = .ok (.lload_n 0, 1) := dd_get dm_X9_isLength_0 4 rfl
theorem dX9_isLength_7 : decode cX9_isLength 7 = .ok (.ldc2_w 346, 3) := dd_get dm_X9_isLength_0 5 rfl
theorem dX9_isLength_10 : decode cX9_isLength 10 = .ok (.lcmp, 1) := dd_get dm_X9_isLength_0 6 rfl
theorem dX9_isLength_11 : decode cX9_isLength 11 = .ok (.ifCond .gt 7, 3) := dd_get dm_X9_isLength_0 7 rfl
theorem dX9_isLength_14 : decode cX9_isLength 14 = .ok (.iconst 1, 1) := dd_get dm_X9_isLength_0 8 rfl
theorem dX9_isLength_15 : decode cX9_isLength 15 = .ok (.goto 4, 3) := dd_get dm_X9_isLength_0 9 rfl
theorem dX9_isLength_18 : decode cX9_isLength 18 = .ok (.iconst 0, 1) := dd_get dm_X9_isLength_0 10 rfl
theorem dX9_isLength_19 : decode cX9_isLength 19 = .ok (.ireturn, 1) := dd_get dm_X9_isLength_0 11 rfl
theorem dm_X9_isOp_0 : (([(0, .iload_n 0, 1), (1, .iconst 1, 1), (2, .if_icmp .lt 13, 3), (5, .iload_n 0, 1), (6, .bipush 6, 2), (8, .if_icmp .gt 7, 3), (11, .iconst 1, 1), (12, .goto 4, 3), (15, .iconst 0, 1), (16, .ireturn, 1)] : List (Nat × Instr × Nat)).all fun q => decide (decode cX9_isOp q.1 = .ok (q.2.1, q.2.2))) = true := by decide +kernel
theorem dX9_isOp_0 : decode cX9_isOp 0 = .ok (.iload_n 0, 1) := dd_get dm_X9_isOp_0 0 rfl
theorem dX9_isOp_1 : decode cX9_isOp 1 = .ok (.iconst 1, 1) := dd_get dm_X9_isOp_0 1 rfl
theorem dX9_isOp_2 : decode cX9_isOp 2 = .ok (.if_icmp .lt 13, 3) := dd_get dm_X9_isOp_0 2 rfl
theorem dX9_isOp_5 : decode cX9_isOp 5 = .ok (.iload_n 0, 1) := dd_get dm_X9_isOp_0 3 rfl
theorem dX9_isOp_6 : decode cX9_isOp 6 = .ok (.bipush 6, 2) := dd_get dm_X9_isOp_0 4 rfl
theorem dX9_isOp_8 : decode cX9_isOp 8 = .ok (.if_icmp .gt 7, 3) := dd_get dm_X9_isOp_0 5 rfl
theorem dX9_isOp_11 : decode cX9_isOp 11 = .ok (.iconst 1, 1) := dd_get dm_X9_isOp_0 6 rfl
theorem dX9_isOp_12 : decode cX9_isOp 12 = .ok (.goto 4, 3) := dd_get dm_X9_isOp_0 7 rfl
theorem dX9_isOp_15 : decode cX9_isOp 15 = .ok (.iconst 0, 1) := dd_get dm_X9_isOp_0 8 rfl
theorem dX9_isOp_16 : decode cX9_isOp 16 = .ok (.ireturn, 1) := dd_get dm_X9_isOp_0 9 rfl
theorem dm_X9_isIn_0 : (([(0, .iload_n 0, 1), (1, .iload_n 1, 1), (2, .ishr, 1), (3, .iconst 1, 1), (4, .iand, 1), (5, .iconst 1, 1), (6, .if_icmp .ne 7, 3), (9, .iconst 1, 1), (10, .goto 4, 3), (13, .iconst 0, 1), (14, .ireturn, 1)] : List (Nat × Instr × Nat)).all fun q => decide (decode cX9_isIn q.1 = .ok (q.2.1, q.2.2))) = true := by decide +kernel
theorem dX9_isIn_0 : decode cX9_isIn 0 = .ok (.iload_n 0, 1) := dd_get dm_X9_isIn_0 0 rfl
theorem dX9_isIn_1 : decode cX9_isIn 1 = .ok (.iload_n 1, 1) := dd_get dm_X9_isIn_0 1 rfl
theorem dX9_isIn_2 : decode cX9_isIn 2 = .ok (.ishr, 1) := dd_get dm_X9_isIn_0 2 rfl
theorem dX9_isIn_3 : decode cX9_isIn 3 = .ok (.iconst 1, 1) := dd_get dm_X9_isIn_0 3 rfl
theorem dX9_isIn_4 : decode cX9_isIn 4 = .ok (.iand, 1) := dd_get dm_X9_isIn_0 4 rfl
theorem dX9_isIn_5 : decode cX9_isIn 5 = .ok (.iconst 1, 1) := dd_get dm_X9_isIn_0 5 rfl
theorem dX9_isIn_6 : decode cX9_isIn 6 = .ok (.if_icmp .ne 7, 3) := dd_get dm_X9_isIn_0 6 rfl
theorem dX9_isIn_9 : decode cX9_isIn 9 = .ok (.iconst 1, 1) := dd_get dm_X9_isIn_0 7 rfl
theorem dX9_isIn_10 : decode cX9_isIn 10 = .ok (.goto 4, 3) := dd_get dm_X9_isIn_0 8 rfl
theorem dX9_isIn_13 : decode cX9_isIn 13 = .ok (.iconst 0, 1) := dd_get dm_X9_isIn_0 9 rfl
theorem dX9_isIn_14 : decode cX9_isIn 14 = .ok (.ireturn, 1) := dd_get dm_X9_isIn_0 10 rfl
theorem dm_X9_pairOf_0 : (([(0, .bipush 16, 2), (2, .iload_n 0, 1), (3, .imul, 1), (4, .iload_n 1, 1), (5, .iadd, 1), (6, .ireturn, 1)] : List (Nat × Instr × Nat)).all fun q => decide (decode cX9_pairOf q.1 = .ok (q.2.1, q.2.2))) = true := by decide +kernel
theorem dX9_pairOf_0 : decode cX9_pairOf 0 = .ok (.bipush 16, 2) := dd_get dm_X9_pairOf_0 0 rfl
theorem dX9_pairOf_2 : decode cX9_pairOf 2 = .ok (.iload_n 0, 1) := dd_get dm_X9_pairOf_0 1 rfl
theorem dX9_pairOf_3 : decode cX9_pairOf 3 = .ok (.imul, 1) := dd_get dm_X9_pairOf_0 2 rfl
theorem dX9_pairOf_4 : decode cX9_pairOf 4 = .ok (.iload_n 1, 1) := dd_get dm_X9_pairOf_0 3 rfl
theorem dX9_pairOf_5 : decode cX9_pairOf 5 = .ok (.iadd, 1) := dd_get dm_X9_pairOf_0 4 rfl
theorem dX9_pairOf_6 : decode cX9_pairOf 6 = .ok (.ireturn, 1) := dd_get dm_X9_pairOf_0 5 rfl
theorem dm_X9_lesserOf_0 : (([(0, .iload_n 0, 1), (1, .iconst 4, 1), (2, .ishr, 1), (3, .bipush 15, 2), (5, .iand, 1), (6, .ireturn, 1)] : List (Nat × Instr × Nat)).all fun q => decide (decode cX9_lesserOf q.1 = .ok (q.2.1, q.2.2))) = true := by decide +kernel
theorem dX9_lesserOf_0 : decode cX9_lesserOf 0 = .ok (.iload_n 0, 1) := dd_get dm_X9_lesserOf_0 0 rfl
theorem dX9_lesserOf_1 : decode cX9_lesserOf 1 = .ok (.iconst 4, 1) := dd_get dm_X9_lesserOf_0 1 rfl
theorem dX9_lesserOf_2 : decode cX9_lesserOf 2 = .ok (.ishr, 1) := dd_get dm_X9_lesserOf_0 2 rfl
theorem dX9_lesserOf_3 : decode cX9_lesserOf 3 = .ok (.bipush 15, 2) := dd_get dm_X9_lesserOf_0 3 rfl
theorem dX9_lesserOf_5 : decode cX9_lesserOf 5 = .ok (.iand, 1) := dd_get dm_X9_lesserOf_0 4 rfl
theorem dX9_lesserOf_6 : decode cX9_lesserOf 6 = .ok (.ireturn, 1) := dd_get dm_X9_lesserOf_0 5 rfl
theorem dm_X9_greaterOf_0 : (([(0, .iload_n 0, 1), (1, .bipush 15, 2), (3, .iand, 1), (4, .ireturn, 1)] : List (Nat × Instr × Nat)).all fun q => decide (decode cX9_greaterOf q.1 = .ok (q.2.1, q.2.2))) = true := by decide +kernel
theorem dX9_greaterOf_0 : decode cX9_greaterOf 0 = .ok (.iload_n 0, 1) := dd_get dm_X9_greaterOf_0 0 rfl
theorem dX9_greaterOf_1 : decode cX9_greaterOf 1 = .ok (.bipush 15, 2) := dd_get dm_X9_greaterOf_0 1 rfl
theorem dX9_greaterOf_3 : decode cX9_greaterOf 3 = .ok (.iand, 1) := dd_get dm_X9_greaterOf_0 2 rfl
theorem dX9_greaterOf_4 : decode cX9_greaterOf 4 = .ok (.ireturn, 1) := dd_get dm_X9_greaterOf_0 3 rfl
theorem dm_X9_isLarge_0 : (([(0, .aload_n 0, 1), (1, .getfield 28, 3), (4, .invokevirtual 202, 3), (7, .bipush 8, 2), (9, .if_icmp .le 7, 3), (12, .iconst 1, 1), (13, .goto 4, 3), (16, .iconst 0, 1), (17, .ireturn, 1)] : List (Nat × Instr × Nat)).all fun q => decide (decode cX9_isLarge q.1 = .ok (q.2.1, q.2.2))) = true := by decide +kernel
theorem dX9_isLarge_0 : decode cX9_isLarge 0 = .ok (.aload_n 0, 1) := dd_get dm_X9_isLarge_0 0 rfl
theorem dX9_isLarge_1 : decode cX9_isLarge 1 = .ok (.getfield 28, 3) := dd_get dm_X9_isLarge_0 1 rfl
theorem dX9_isLarge_4 : decode cX9_isLarge 4 = .ok (.invokevirtual 202, 3) := dd_get dm_X9_isLarge_0 2 rfl
theorem dX9_isLarge_7 : decode cX9_isLarge 7 = .ok (.bipush 8, 2) := dd_get dm_X9_isLarge_0 3 rfl
theorem dX9_isLarge_9 : decode cX9_isLarge 9 = .ok (.if_icmp .le 7, 3) := dd_get dm_X9_isLarge_0 4 rfl
theorem dX9_isLarge_12 : decode cX9_isLarge 12 = .ok (.iconst 1, 1) := dd_get dm_X9_isLarge_0 5 rfl
theorem dX9_isLarge_13 : decode cX9_isLarge 13 = .ok (.goto 4, 3) := dd_get dm_X9_isLarge_0 6 rfl
theorem dX9_isLarge_16 : decode cX9_isLarge 16 = .ok (.iconst 0, 1) := dd_get dm_X9_isLarge_0 7 rfl
theorem dX9_isLarge_17 : decode cX9_isLarge 17 = .ok (.ireturn, 1) := dd_get dm_X9_isLarge_0 8 rfl
theorem dm_X9_isTooSmall_0 : (([(0, .aload_n 0, 1), (1, .getfield 28, 3), (4, .invokevirtual 202, 3), (7, .iconst 3, 1), (8, .if_icmp .ge 7, 3), (11, .iconst 1, 1), (12, .goto 4, 3), (15, .iconst 0, 1), (16, .ireturn, 1)] : List (Nat × Instr × Nat)).all fun q => decide (decode cX9_isTooSmall q.1 = .ok (q.2.1, q.2.2))) = true := by decide +kernel
theorem dX9_isTooSmall_0 : decode cX9_isTooSmall 0 = .ok (.aload_n 0, 1) := dd_get dm_X9_isTooSmall_0 0 rfl
theorem dX9_isTooSmall_1 : decode cX9_isTooSmall 1 = .ok (.getfield 28, 3) := dd_get dm_X9_isTooSmall_0 1 rfl
theorem dX9_isTooSmall_4 : decode cX9_isTooSmall 4 = .ok (.invokevirtual 202, 3) := dd_get dm_X9_isTooSmall_0 2 rfl
theorem dX9_isTooSmall_7 : decode cX9_isTooSmall 7 = .ok (.iconst 3, 1) := dd_get dm_X9_isTooSmall_0 3 rfl
theorem dX9_isTooSmall_8 : decode cX9_isTooSmall 8 = .ok (.if_icmp .ge 7, 3) := dd_get dm_X9_isTooSmall_0 4 rfl
theorem dX9_isTooSmall_11 : decode cX9_isTooSmall 11 = .ok (.iconst 1, 1) := dd_get dm_X9_isTooSmall_0 5 rfl
theorem dX9_isTooSmall_12 : decode cX9_isTooSmall 12 = .ok (.goto 4, 3) := dd_get dm_X9_isTooSmall_0 6 rfl
theorem dX9_isTooSmall_15 : decode cX9_isTooSmall 15 = .ok (.iconst 0, 1) := dd_get dm_X9_isTooSmall_0 7 rfl
theorem dX9_isTooSmall_16 : decode cX9_isTooSmall 16 = .ok (.ireturn, 1) := dd_get dm_X9_isTooSmall_0 8 rfl
theorem dm_X9_lanesChanged_0 : (([(0, .aload_n 0, 1), (1, .getfield 19, 3), (4, .invokevirtual 348, 3), (7, .aload_n 0, 1), (8, .invokevirtual 175, 3), (11, .return_, 1)] : List (Nat × Instr × Nat)).all fun q => decide (decode cX9_lanesChanged q.1 = .ok (q.2.1, q.2.2))) = true := by decide +kernel
theorem dX9_lanesChanged_0 : decode cX9_lanesChanged 0 = .ok (.aload_n 0, 1) := dd_get dm_X9_lanesChanged_0 0 rfl
theorem dX9_lanesChanged_1 : decode cX9_lanesChanged 1 = .ok (.getfield 19, 3) := dd_get dm_X9_lanesChanged_0 1 rfl
theorem dX9_lanesChanged_4 : decode cX9_lanesChanged 4 = .ok (.invokevirtual 348, 3) := dd_get dm_X9_lanesChanged_0 2 rfl
theorem dX9_lanesChanged_7 : decode cX9_lanesChanged 7 = .ok (.aload_n 0, 1) := dd_get dm_X9_lanesChanged_0 3 rfl
theorem dX9_lanesChanged_8 : decode cX9_lanesChanged 8 = .ok (.invokevirtual 175, 3) := dd_get dm_X9_lanesChanged_0 4 rfl
theorem dX9_lanesChanged_11 : decode cX9_lanesChanged 11 = .ok (.return_, 1) := dd_get dm_X9_lanesChanged_0 5 rfl
theorem dm_X9_lampsChanged_0 : (([(0, .aload_n 0, 1), (1, .getfield 28, 3), (4, .iconst 0, 1), (5, .putfield 351, 3), (8, .aload_n 0, 1), (9, .getfield 37, 3), (12, .invokevirtual 263, 3), (15, .pop, 1), (16, .return_, 1)] : List (Nat × Instr × Nat)).all fun q => decide (decode cX9_lampsChanged q.1 = .ok (q.2.1, q.2.2))) = true := by decide +kernel
theorem dX9_lampsChanged_0 : decode cX9_lampsChanged 0 = .ok (.aload_n 0, 1) := dd_get dm_X9_lampsChanged_0 0 rfl
theorem dX9_lampsChanged_1 : decode cX9_lampsChanged 1 = .ok (.getfield 28, 3) := dd_get dm_X9_lampsChanged_0 1 rfl
theorem dX9_lampsChanged_4 : decode cX9_lampsChanged 4 = .ok (.iconst 0, 1) := dd_get dm_X9_lampsChanged_0 2 rfl
theorem dX9_lampsChanged_5 : decode cX9_lampsChanged 5 = .ok (.putfield 351, 3) := dd_get dm_X9_lampsChanged_0 3 rfl
theorem dX9_lampsChanged_8 : decode cX9_lampsChanged 8 = .ok (.aload_n 0, 1) := dd_get dm_X9_lampsChanged_0 4 rfl
theorem dX9_lampsChanged_9 : decode cX9_lampsChanged 9 = .ok (.getfield 37, 3) := dd_get dm_X9_lampsChanged_0 5 rfl
theorem dX9_lampsChanged_12 : decode cX9_lampsChanged 12 = .ok (.invokevirtual 263, 3) := dd_get dm_X9_lampsChanged_0 6 rfl
theorem dX9_lampsChanged_15 : decode cX9_lampsChanged 15 = .ok (.pop, 1) := dd_get dm_X9_lampsChanged_0 7 rfl
theorem dX9_lampsChanged_16 : decode cX9_lampsChanged 16 = .ok (.return_, 1) := dd_get dm_X9_lampsChanged_0 8 rfl
theorem dm_X9_beginEmptyCase_0 : (([(0, .aload_n 0, 1), (1, .getfield 28, 3), (4, .invokevirtual 185, 3), (7, .aload_n 0, 1), (8, .getfield 51, 3), (11, .invokevirtual 354, 3), (14, .aload_n 0, 1), (15, .getfield 60, 3), (18, .invokevirtual 357, 3), (21, .return_, 1)] : List (Nat × Instr × Nat)).all fun q => decide (decode cX9_beginEmptyCase q.1 = .ok (q.2.1, q.2.2))) = true := by decide +kernel
theorem dX9_beginEmptyCase_0 : decode cX9_beginEmptyCase 0 = .ok (.aload_n 0, 1) := dd_get dm_X9_beginEmptyCase_0 0 rfl
theorem dX9_beginEmptyCase_1 : decode cX9_beginEmptyCase 1 = .ok (.getfield 28, 3) := dd_get dm_X9_beginEmptyCase_0 1 rfl
theorem dX9_beginEmptyCase_4 : decode cX9_beginEmptyCase 4 = .ok (.invokevirtual 185, 3) := dd_get dm_X9_beginEmptyCase_0 2 rfl
theorem dX9_beginEmptyCase_7 : decode cX9_beginEmptyCase 7 = .ok (.aload_n 0, 1) := dd_get dm_X9_beginEmptyCase_0 3 rfl
theorem dX9_beginEmptyCase_8 : decode cX9_beginEmptyCase 8 = .ok (.getfield 51, 3) := dd_get dm_X9_beginEmptyCase_0 4 rfl
theorem dX9_beginEmptyCase_11 : decode cX9_beginEmptyCase 11 = .ok (.invokevirtual 354, 3) := dd_get dm_X9_beginEmptyCase_0 5 rfl
theorem dX9_beginEmptyCase_14 : decode cX9_beginEmptyCase 14 = .ok (.aload_n 0, 1) := dd_get dm_X9_beginEmptyCase_0 6 rfl
theorem dX9_beginEmptyCase_15 : decode cX9_beginEmptyCase 15 = .ok (.getfield 60, 3) := dd_get dm_X9_beginEmptyCase_0 7 rfl
theorem dX9_beginEmptyCase_18 : decode cX9_beginEmptyCase 18 = .ok (.invokevirtual 357, 3) := dd_get dm_X9_beginEmptyCase_0 8 rfl
theorem dX9_beginEmptyCase_21 : decode cX9_beginEmptyCase 21 = .ok (.return_, 1) := dd_get dm_X9_beginEmptyCase_0 9 rfl
theorem dm_X9_growEmptyCase_0 : (([(0, .aload_n 0, 1), (1, .invokevirtual 313, 3), (4, .aload_n 0, 1), (5, .getfield 60, 3), (8, .invokevirtual 302, 3), (11, .return_, 1)] : List (Nat × Instr × Nat)).all fun q => decide (decode cX9_growEmptyCase q.1 = .ok (q.2.1, q.2.2))) = true := by decide +kernel
theorem dX9_growEmptyCase_0 : decode cX9_growEmptyCase 0 = .ok (.aload_n 0, 1) := dd_get dm_X9_growEmptyCase_0 0 rfl
theorem dX9_growEmptyCase_1 : decode cX9_growEmptyCase 1 = .ok (.invokevirtual 313, 3) := dd_get dm_X9_growEmptyCase_0 1 rfl
theorem dX9_growEmptyCase_4 : decode cX9_growEmptyCase 4 = .ok (.aload_n 0, 1) := dd_get dm_X9_growEmptyCase_0 2 rfl
theorem dX9_growEmptyCase_5 : decode cX9_growEmptyCase 5 = .ok (.getfield 60, 3) := dd_get dm_X9_growEmptyCase_0 3 rfl
theorem dX9_growEmptyCase_8 : decode cX9_growEmptyCase 8 = .ok (.invokevirtual 302, 3) := dd_get dm_X9_growEmptyCase_0 4 rfl
theorem dX9_growEmptyCase_11 : decode cX9_growEmptyCase 11 = .ok (.return_, 1) := dd_get dm_X9_growEmptyCase_0 5 rfl
theorem dm_X10_init_0 : (([(0, .aload_n 0, 1), (1, .invokespecial 1, 3), (4, .aload_n 0, 1), (5, .bipush 100, 2), (7, .newarray .int, 2), (9, .putfield 7, 3), (12, .aload_n 0, 1), (13, .bipush 100, 2), (15, .newarray .int, 2), (17, .putfield 13, 3), (20, .aload_n 0, 1), (21, .bipush 100, 2), (23, .newarray .int, 2), (25, .putfield 16, 3), (28, .aload_n 0, 1), (29, .bipush 100, 2), (31, .newarray .boolean, 2), (33, .putfield 19, 3), (36, .aload_n 0, 1), (37, .iconst 4, 1), (38, .newarray .int, 2), (40, .putfield 23, 3), (43, .aload_n 0, 1), (44, .iconst 4, 1), (45, .newarray .int, 2), (47, .putfield 26, 3), (50, .aload_n 0, 1), (51, .sipush 200, 3), (54, .newarray .long, 2), (56, .putfield 29, 3), (59, .aload_n 0, 1), (60, .sipush 1600, 3), (63, .newarray .int, 2), (65, .putfield 33, 3), (68, .aload_n 0, 1), (69, .bipush 12, 2), (71, .newarray .int, 2), (73, .putfield 36, 3), (76, .aload_n 0, 1), (77, .bipush 12, 2), (79, .newarray .int, 2), (81, .putfield 39, 3), (84, .aload_n 0, 1), (85, .bipush 12, 2), (87, .newarray .int, 2), (89, .putfield 42, 3), (92, .aload_n 0, 1), (93, .bipush 12, 2), (95, .newarray .boolean, 2), (97, .putfield 45, 3), (100, .aload_n 0, 1), (101, .bipush 12, 2), (103, .newarray .int, 2), (105, .putfield 48, 3), (108, .aload_n 0, 1), (109, .bipush 12, 2), (111, .newarray .int, 2), (113, .putfield 51, 3), (116, .aload_n 0, 1), (117, .sipush 400, 3)] : List (Nat × Instr × Nat)).all fun q => decide (decode cX10_init q.1 = .ok (q.2.1, q.2.2))) = true := by decide +kernel
theorem dX10_init_0 : decode cX10_init 0 = .ok (.aload_n 0, 1) := dd_get dm_X10_init_0 0 rfl
theorem dX10_init_1 : decode cX10_init 1 = .ok (.invokespecial 1, 3) := dd_get dm_X10_init_0 1 rfl
theorem dX10_init_4 : decode cX10_init 4 = .ok (.aload_n 0, 1) := dd_get dm_X10_init_0 2 rfl
theorem dX10_init_5 : decode cX10_init 5 = .ok (.bipush 100, 2) := dd_get dm_X10_init_0 3 rfl
theorem dX10_init_7 : decode cX10_init 7 = .ok (.newarray .int, 2) := dd_get dm_X10_init_0 4 rfl
theorem dX10_init_9 : decode cX10_init 9 = .ok (.putfield 7, 3) := dd_get dm_X10_init_0 5 rfl
theorem dX10_init_12 : decode cX10_init 12 = .ok (.aload_n 0, 1) := dd_get dm_X10_init_0 6 rfl
theorem dX10_init_13 : decode cX10_init 13 = .ok (.bipush 100, 2) := dd_get dm_X10_init_0 7 rfl
theorem dX10_init_15 : decode cX10_init 15 = .ok (.newarray .int, 2) := dd_get dm_X10_init_0 8 rfl
theorem dX10_init_17 : decode cX10_init 17 = .ok (.putfield 13, 3) := dd_get dm_X10_init_0 9 rfl
theorem dX10_init_20 : decode cX10_init 20 = .ok (.aload_n 0, 1) := dd_get dm_X10_init_0 10 rfl
theorem dX10_init_21 : decode cX10_init 21 = .ok (.bipush 100, 2) := dd_get dm_X10_init_0 11 rfl
theorem dX10_init_23 : decode cX10_init 23 = .ok (.newarray .int, 2) := dd_get dm_X10_init_0 12 rfl
theorem dX10_init_25 : decode cX10_init 25 = .ok (.putfield 16, 3) := dd_get dm_X10_init_0 13 rfl
theorem dX10_init_28 : decode cX10_init 28 = .ok (.aload_n 0, 1) := dd_get dm_X10_init_0 14 rfl
theorem dX10_init_29 : decode cX10_init 29 = .ok (.bipush 100, 2) := dd_get dm_X10_init_0 15 rfl
theorem dX10_init_31 : decode cX10_init 31 = .ok (.newarray .boolean, 2) := dd_get dm_X10_init_0 16 rfl
theorem dX10_init_33 : decode cX10_init 33 = .ok (.putfield 19, 3) := dd_get dm_X10_init_0 17 rfl
theorem dX10_init_36 : decode cX10_init 36 = .ok (.aload_n 0, 1) := dd_get dm_X10_init_0 18 rfl
theorem dX10_init_37 : decode cX10_init 37 = .ok (.iconst 4, 1) := dd_get dm_X10_init_0 19 rfl
theorem dX10_init_38 : decode cX10_init 38 = .ok (.newarray .int, 2) := dd_get dm_X10_init_0 20 rfl
theorem dX10_init_40 : decode cX10_init 40 = .ok (.putfield 23, 3) := dd_get dm_X10_init_0 21 rfl
theorem dX10_init_43 : decode cX10_init 43 = .ok (.aload_n 0, 1) := dd_get dm_X10_init_0 22 rfl
theorem dX10_init_44 : decode cX10_init 44 = .ok (.iconst 4, 1) := dd_get dm_X10_init_0 23 rfl
theorem dX10_init_45 : decode cX10_init 45 = .ok (.newarray .int, 2) := dd_get dm_X10_init_0 24 rfl
theorem dX10_init_47 : decode cX10_init 47 = .ok (.putfield 26, 3) := dd_get dm_X10_init_0 25 rfl
theorem dX10_init_50 : decode cX10_init 50 = .ok (.aload_n 0, 1) := dd_get dm_X10_init_0 26 rfl
theorem dX10_init_51 : decode cX10_init 51 = .ok (.sipush 200, 3) := dd_get dm_X10_init_0 27 rfl
theorem dX10_init_54 : decode cX10_init 54 = .ok (.newarray .long, 2) := dd_get dm_X10_init_0 28 rfl
theorem dX10_init_56 : decode cX10_init 56 = .ok (.putfield 29, 3) := dd_get dm_X10_init_0 29 rfl
theorem dX10_init_59 : decode cX10_init 59 = .ok (.aload_n 0, 1) := dd_get dm_X10_init_0 30 rfl
theorem dX10_init_60 : decode cX10_init 60 = .ok (.sipush 1600, 3) := dd_get dm_X10_init_0 31 rfl
theorem dX10_init_63 : decode cX10_init 63 = .ok (.newarray .int, 2) := dd_get dm_X10_init_0 32 rfl
theorem dX10_init_65 : decode cX10_init 65 = .ok (.putfield 33, 3) := dd_get dm_X10_init_0 33 rfl
theorem dX10_init_68 : decode cX10_init 68 = .ok (.aload_n 0, 1) := dd_get dm_X10_init_0 34 rfl
theorem dX10_init_69 : decode cX10_init 69 = .ok (.bipush 12, 2) := dd_get dm_X10_init_0 35 rfl
theorem dX10_init_71 : decode cX10_init 71 = .ok (.newarray .int, 2) := dd_get dm_X10_init_0 36 rfl
theorem dX10_init_73 : decode cX10_init 73 = .ok (.putfield 36, 3) := dd_get dm_X10_init_0 37 rfl
theorem dX10_init_76 : decode cX10_init 76 = .ok (.aload_n 0, 1) := dd_get dm_X10_init_0 38 rfl
theorem dX10_init_77 : decode cX10_init 77 = .ok (.bipush 12, 2) := dd_get dm_X10_init_0 39 rfl
theorem dX10_init_79 : decode cX10_init 79 = .ok (.newarray .int, 2) := dd_get dm_X10_init_0 40 rfl
theorem dX10_init_81 : decode cX10_init 81 = .ok (.putfield 39, 3) := dd_get dm_X10_init_0 41 rfl
theorem dX10_init_84 : decode cX10_init 84 = .ok (.aload_n 0, 1) := dd_get dm_X10_init_0 42 rfl
theorem dX10_init_85 : decode cX10_init 85 = .ok (.bipush 12, 2) := dd_get dm_X10_init_0 43 rfl
theorem dX10_init_87 : decode cX10_init 87 = .ok (.newarray .int, 2) := dd_get dm_X10_init_0 44 rfl
theorem dX10_init_89 : decode cX10_init 89 = .ok (.putfield 42, 3) := dd_get dm_X10_init_0 45 rfl
theorem dX10_init_92 : decode cX10_init 92 = .ok (.aload_n 0, 1) := dd_get dm_X10_init_0 46 rfl
theorem dX10_init_93 : decode cX10_init 93 = .ok (.bipush 12, 2) := dd_get dm_X10_init_0 47 rfl
theorem dX10_init_95 : decode cX10_init 95 = .ok (.newarray .boolean, 2) := dd_get dm_X10_init_0 48 rfl
theorem dX10_init_97 : decode cX10_init 97 = .ok (.putfield 45, 3) := dd_get dm_X10_init_0 49 rfl
theorem dX10_init_100 : decode cX10_init 100 = .ok (.aload_n 0, 1) := dd_get dm_X10_init_0 50 rfl
theorem dX10_init_101 : decode cX10_init 101 = .ok (.bipush 12, 2) := dd_get dm_X10_init_0 51 rfl
theorem dX10_init_103 : decode cX10_init 103 = .ok (.newarray .int, 2) := dd_get dm_X10_init_0 52 rfl
theorem dX10_init_105 : decode cX10_init 105 = .ok (.putfield 48, 3) := dd_get dm_X10_init_0 53 rfl
theorem dX10_init_108 : decode cX10_init 108 = .ok (.aload_n 0, 1) := dd_get dm_X10_init_0 54 rfl
theorem dX10_init_109 : decode cX10_init 109 = .ok (.bipush 12, 2) := dd_get dm_X10_init_0 55 rfl
theorem dX10_init_111 : decode cX10_init 111 = .ok (.newarray .int, 2) := dd_get dm_X10_init_0 56 rfl
theorem dX10_init_113 : decode cX10_init 113 = .ok (.putfield 51, 3) := dd_get dm_X10_init_0 57 rfl
theorem dX10_init_116 : decode cX10_init 116 = .ok (.aload_n 0, 1) := dd_get dm_X10_init_0 58 rfl
theorem dX10_init_117 : decode cX10_init 117 = .ok (.sipush 400, 3) := dd_get dm_X10_init_0 59 rfl
theorem dm_X10_init_1 : (([(120, .newarray .int, 2), (122, .putfield 54, 3), (125, .aload_n 0, 1), (126, .sipush 400, 3), (129, .newarray .int, 2), (131, .putfield 57, 3), (134, .aload_n 0, 1), (135, .sipush 400, 3), (138, .newarray .int, 2), (140, .putfield 60, 3), (143, .aload_n 0, 1), (144, .bipush 12, 2), (146, .newarray .int, 2), (148, .putfield 63, 3), (151, .aload_n 0, 1), (152, .bipush 12, 2), (154, .newarray .int, 2), (156, .putfield 66, 3), (159, .aload_n 0, 1), (160, .bipush 12, 2), (162, .newarray .int, 2), (164, .putfield 69, 3), (167, .aload_n 0, 1), (168, .sipush 144, 3), (171, .newarray .int, 2), (173, .putfield 72, 3), (176, .aload_n 0, 1), (177, .bipush 12, 2), (179, .newarray .int, 2), (181, .putfield 75, 3), (184, .aload_n 0, 1), (185, .bipush 24, 2), (187, .newarray .int, 2), (189, .putfield 78, 3), (192, .aload_n 0, 1), (193, .sipush 144, 3), (196, .newarray .boolean, 2), (198, .putfield 81, 3), (201, .aload_n 0, 1), (202, .sipush 11520, 3), (205, .newarray .int, 2), (207, .putfield 84, 3), (210, .aload_n 0, 1), (211, .bipush 12, 2), (213, .newarray .boolean, 2), (215, .putfield 87, 3), (218, .aload_n 0, 1), (219, .sipush 400, 3), (222, .newarray .int, 2), (224, .putfield 90, 3), (227, .aload_n 0, 1), (228, .sipush 400, 3), (231, .newarray .int, 2), (233, .putfield 93, 3), (236, .aload_n 0, 1), (237, .sipush 400, 3), (240, .newarray .int, 2), (242, .putfield 96, 3), (245, .iconst 0, 1), (246, .istore_n 1, 1)] : List (Nat × Instr × Nat)).all fun q => decide (decode cX10_init q.1 = .ok (q.2.1, q.2.2))) = true := by decide +kernel
theorem dX10_init_120 : decode cX10_init 120 = .ok (.newarray .int, 2) := dd_get dm_X10_init_1 0 rfl
theorem dX10_init_122 : decode cX10_init 122 = .ok (.putfield 54, 3) := dd_get dm_X10_init_1 1 rfl
theorem dX10_init_125 : decode cX10_init 125 = .ok (.aload_n 0, 1) := dd_get dm_X10_init_1 2 rfl
theorem dX10_init_126 : decode cX10_init 126 = .ok (.sipush 400, 3) := dd_get dm_X10_init_1 3 rfl
theorem dX10_init_129 : decode cX10_init 129 = .ok (.newarray .int, 2) := dd_get dm_X10_init_1 4 rfl
theorem dX10_init_131 : decode cX10_init 131 = .ok (.putfield 57, 3) := dd_get dm_X10_init_1 5 rfl
theorem dX10_init_134 : decode cX10_init 134 = .ok (.aload_n 0, 1) := dd_get dm_X10_init_1 6 rfl
theorem dX10_init_135 : decode cX10_init 135 = .ok (.sipush 400, 3) := dd_get dm_X10_init_1 7 rfl
theorem dX10_init_138 : decode cX10_init 138 = .ok (.newarray .int, 2) := dd_get dm_X10_init_1 8 rfl
theorem dX10_init_140 : decode cX10_init 140 = .ok (.putfield 60, 3) := dd_get dm_X10_init_1 9 rfl
theorem dX10_init_143 : decode cX10_init 143 = .ok (.aload_n 0, 1) := dd_get dm_X10_init_1 10 rfl
theorem dX10_init_144 : decode cX10_init 144 = .ok (.bipush 12, 2) := dd_get dm_X10_init_1 11 rfl
theorem dX10_init_146 : decode cX10_init 146 = .ok (.newarray .int, 2) := dd_get dm_X10_init_1 12 rfl
theorem dX10_init_148 : decode cX10_init 148 = .ok (.putfield 63, 3) := dd_get dm_X10_init_1 13 rfl
theorem dX10_init_151 : decode cX10_init 151 = .ok (.aload_n 0, 1) := dd_get dm_X10_init_1 14 rfl
theorem dX10_init_152 : decode cX10_init 152 = .ok (.bipush 12, 2) := dd_get dm_X10_init_1 15 rfl
theorem dX10_init_154 : decode cX10_init 154 = .ok (.newarray .int, 2) := dd_get dm_X10_init_1 16 rfl
theorem dX10_init_156 : decode cX10_init 156 = .ok (.putfield 66, 3) := dd_get dm_X10_init_1 17 rfl
theorem dX10_init_159 : decode cX10_init 159 = .ok (.aload_n 0, 1) := dd_get dm_X10_init_1 18 rfl
theorem dX10_init_160 : decode cX10_init 160 = .ok (.bipush 12, 2) := dd_get dm_X10_init_1 19 rfl
theorem dX10_init_162 : decode cX10_init 162 = .ok (.newarray .int, 2) := dd_get dm_X10_init_1 20 rfl
theorem dX10_init_164 : decode cX10_init 164 = .ok (.putfield 69, 3) := dd_get dm_X10_init_1 21 rfl
theorem dX10_init_167 : decode cX10_init 167 = .ok (.aload_n 0, 1) := dd_get dm_X10_init_1 22 rfl
theorem dX10_init_168 : decode cX10_init 168 = .ok (.sipush 144, 3) := dd_get dm_X10_init_1 23 rfl
theorem dX10_init_171 : decode cX10_init 171 = .ok (.newarray .int, 2) := dd_get dm_X10_init_1 24 rfl
theorem dX10_init_173 : decode cX10_init 173 = .ok (.putfield 72, 3) := dd_get dm_X10_init_1 25 rfl
theorem dX10_init_176 : decode cX10_init 176 = .ok (.aload_n 0, 1) := dd_get dm_X10_init_1 26 rfl
theorem dX10_init_177 : decode cX10_init 177 = .ok (.bipush 12, 2) := dd_get dm_X10_init_1 27 rfl
theorem dX10_init_179 : decode cX10_init 179 = .ok (.newarray .int, 2) := dd_get dm_X10_init_1 28 rfl
theorem dX10_init_181 : decode cX10_init 181 = .ok (.putfield 75, 3) := dd_get dm_X10_init_1 29 rfl
theorem dX10_init_184 : decode cX10_init 184 = .ok (.aload_n 0, 1) := dd_get dm_X10_init_1 30 rfl
theorem dX10_init_185 : decode cX10_init 185 = .ok (.bipush 24, 2) := dd_get dm_X10_init_1 31 rfl
theorem dX10_init_187 : decode cX10_init 187 = .ok (.newarray .int, 2) := dd_get dm_X10_init_1 32 rfl
theorem dX10_init_189 : decode cX10_init 189 = .ok (.putfield 78, 3) := dd_get dm_X10_init_1 33 rfl
theorem dX10_init_192 : decode cX10_init 192 = .ok (.aload_n 0, 1) := dd_get dm_X10_init_1 34 rfl
theorem dX10_init_193 : decode cX10_init 193 = .ok (.sipush 144, 3) := dd_get dm_X10_init_1 35 rfl
theorem dX10_init_196 : decode cX10_init 196 = .ok (.newarray .boolean, 2) := dd_get dm_X10_init_1 36 rfl
theorem dX10_init_198 : decode cX10_init 198 = .ok (.putfield 81, 3) := dd_get dm_X10_init_1 37 rfl
theorem dX10_init_201 : decode cX10_init 201 = .ok (.aload_n 0, 1) := dd_get dm_X10_init_1 38 rfl
theorem dX10_init_202 : decode cX10_init 202 = .ok (.sipush 11520, 3) := dd_get dm_X10_init_1 39 rfl
theorem dX10_init_205 : decode cX10_init 205 = .ok (.newarray .int, 2) := dd_get dm_X10_init_1 40 rfl
theorem dX10_init_207 : decode cX10_init 207 = .ok (.putfield 84, 3) := dd_get dm_X10_init_1 41 rfl
theorem dX10_init_210 : decode cX10_init 210 = .ok (.aload_n 0, 1) := dd_get dm_X10_init_1 42 rfl
theorem dX10_init_211 : decode cX10_init 211 = .ok (.bipush 12, 2) := dd_get dm_X10_init_1 43 rfl
theorem dX10_init_213 : decode cX10_init 213 = .ok (.newarray .boolean, 2) := dd_get dm_X10_init_1 44 rfl
theorem dX10_init_215 : decode cX10_init 215 = .ok (.putfield 87, 3) := dd_get dm_X10_init_1 45 rfl
theorem dX10_init_218 : decode cX10_init 218 = .ok (.aload_n 0, 1) := dd_get dm_X10_init_1 46 rfl
theorem dX10_init_219 : decode cX10_init 219 = .ok (.sipush 400, 3) := dd_get dm_X10_init_1 47 rfl
theorem dX10_init_222 : decode cX10_init 222 = .ok (.newarray .int, 2) := dd_get dm_X10_init_1 48 rfl
theorem dX10_init_224 : decode cX10_init 224 = .ok (.putfield 90, 3) := dd_get dm_X10_init_1 49 rfl
theorem dX10_init_227 : decode cX10_init 227 = .ok (.aload_n 0, 1) := dd_get dm_X10_init_1 50 rfl
theorem dX10_init_228 : decode cX10_init 228 = .ok (.sipush 400, 3) := dd_get dm_X10_init_1 51 rfl
theorem dX10_init_231 : decode cX10_init 231 = .ok (.newarray .int, 2) := dd_get dm_X10_init_1 52 rfl
theorem dX10_init_233 : decode cX10_init 233 = .ok (.putfield 93, 3) := dd_get dm_X10_init_1 53 rfl
theorem dX10_init_236 : decode cX10_init 236 = .ok (.aload_n 0, 1) := dd_get dm_X10_init_1 54 rfl
theorem dX10_init_237 : decode cX10_init 237 = .ok (.sipush 400, 3) := dd_get dm_X10_init_1 55 rfl
theorem dX10_init_240 : decode cX10_init 240 = .ok (.newarray .int, 2) := dd_get dm_X10_init_1 56 rfl
theorem dX10_init_242 : decode cX10_init 242 = .ok (.putfield 96, 3) := dd_get dm_X10_init_1 57 rfl
theorem dX10_init_245 : decode cX10_init 245 = .ok (.iconst 0, 1) := dd_get dm_X10_init_1 58 rfl
theorem dX10_init_246 : decode cX10_init 246 = .ok (.istore_n 1, 1) := dd_get dm_X10_init_1 59 rfl
theorem dm_X10_init_2 : (([(247, .iload_n 1, 1), (248, .iconst 4, 1), (249, .if_icmp .ge 16, 3), (252, .aload_n 0, 1), (253, .getfield 26, 3), (256, .iload_n 1, 1), (257, .iconst (-1), 1), (258, .iastore, 1), (259, .iinc 1 1, 3), (262, .goto (-15), 3), (265, .aload_n 0, 1), (266, .invokevirtual 99, 3), (269, .return_, 1)] : List (Nat × Instr × Nat)).all fun q => decide (decode cX10_init q.1 = .ok (q.2.1, q.2.2))) = true := by decide +kernel
theorem dX10_init_247 : decode cX10_init 247 = .ok (.iload_n 1, 1) := dd_get dm_X10_init_2 0 rfl
theorem dX10_init_248 : decode cX10_init 248 = .ok (.iconst 4, 1) := dd_get dm_X10_init_2 1 rfl
theorem dX10_init_249 : decode cX10_init 249 = .ok (.if_icmp .ge 16, 3) := dd_get dm_X10_init_2 2 rfl
theorem dX10_init_252 : decode cX10_init 252 = .ok (.aload_n 0, 1) := dd_get dm_X10_init_2 3 rfl
theorem dX10_init_253 : decode cX10_init 253 = .ok (.getfield 26, 3) := dd_get dm_X10_init_2 4 rfl
theorem dX10_init_256 : decode cX10_init 256 = .ok (.iload_n 1, 1) := dd_get dm_X10_init_2 5 rfl
theorem dX10_init_257 : decode cX10_init 257 = .ok (.iconst (-1), 1) := dd_get dm_X10_init_2 6 rfl
theorem dX10_init_258 : decode cX10_init 258 = .ok (.iastore, 1) := dd_get dm_X10_init_2 7 rfl
theorem dX10_init_259 : decode cX10_init 259 = .ok (.iinc 1 1, 3) := dd_get dm_X10_init_2 8 rfl
theorem dX10_init_262 : decode cX10_init 262 = .ok (.goto (-15), 3) := dd_get dm_X10_init_2 9 rfl
theorem dX10_init_265 : decode cX10_init 265 = .ok (.aload_n 0, 1) := dd_get dm_X10_init_2 10 rfl
theorem dX10_init_266 : decode cX10_init 266 = .ok (.invokevirtual 99, 3) := dd_get dm_X10_init_2 11 rfl
theorem dX10_init_269 : decode cX10_init 269 = .ok (.return_, 1) := dd_get dm_X10_init_2 12 rfl
theorem dm_X10_work_0 : (([(0, .iconst 0, 1), (1, .istore_n 1, 1), (2, .iload_n 1, 1), (3, .sipush 1600, 3), (6, .if_icmp .ge 32, 3), (9, .aload_n 0, 1), (10, .getfield 33, 3), (13, .iload_n 1, 1), (14, .iload_n 1, 1), (15, .bipush 40, 2), (17, .idiv, 1), (18, .iload_n 1, 1), (19, .bipush 40, 2), (21, .irem, 1), (22, .if_icmp .ne 7, 3), (25, .iconst 0, 1), (26, .goto 5, 3), (29, .ldc 102, 2), (31, .iastore, 1), (32, .iinc 1 1, 3), (35, .goto (-33), 3), (38, .iconst 0, 1), (39, .istore_n 1, 1), (40, .iload_n 1, 1), (41, .aload_n 0, 1), (42, .getfield 103, 3), (45, .if_icmp .ge 100, 3), (48, .aload_n 0, 1), (49, .getfield 19, 3), (52, .iload_n 1, 1), (53, .baload, 1), (54, .ifCond .eq 85, 3), (57, .bipush 40, 2), (59, .aload_n 0, 1), (60, .getfield 7, 3), (63, .iload_n 1, 1), (64, .iaload, 1), (65, .imul, 1), (66, .aload_n 0, 1), (67, .getfield 13, 3), (70, .iload_n 1, 1), (71, .iaload, 1), (72, .iadd, 1), (73, .istore_n 2, 1), (74, .bipush 40, 2), (76, .aload_n 0, 1), (77, .getfield 13, 3), (80, .iload_n 1, 1), (81, .iaload, 1), (82, .imul, 1), (83, .aload_n 0, 1), (84, .getfield 7, 3), (87, .iload_n 1, 1), (88, .iaload, 1), (89, .iadd, 1), (90, .istore_n 3, 1), (91, .aload_n 0, 1), (92, .getfield 33, 3), (95, .iload_n 2, 1), (96, .aload_n 0, 1)] : List (Nat × Instr × Nat)).all fun q => decide (decode cX10_work q.1 = .ok (q.2.1, q.2.2))) = true := by decide +kernel
theorem dX10_work_0 : decode cX10_work 0 = .ok (.iconst 0, 1) := dd_get dm_X10_work_0 0 rfl
theorem dX10_work_1 : decode cX10_work 1 = .ok (.istore_n 1, 1) := dd_get dm_X10_work_0 1 rfl
theorem dX10_work_2 : decode cX10_work 2 = .ok (.iload_n 1, 1) := dd_get dm_X10_work_0 2 rfl
theorem dX10_work_3 : decode cX10_work 3 = .ok (.sipush 1600, 3) := dd_get dm_X10_work_0 3 rfl
theorem dX10_work_6 : decode cX10_work 6 = .ok (.if_icmp .ge 32, 3) := dd_get dm_X10_work_0 4 rfl
theorem dX10_work_9 : decode cX10_work 9 = .ok (.aload_n 0, 1) := dd_get dm_X10_work_0 5 rfl
theorem dX10_work_10 : decode cX10_work 10 = .ok (.getfield 33, 3) := dd_get dm_X10_work_0 6 rfl
theorem dX10_work_13 : decode cX10_work 13 = .ok (.iload_n 1, 1) := dd_get dm_X10_work_0 7 rfl
theorem dX10_work_14 : decode cX10_work 14 = .ok (.iload_n 1, 1) := dd_get dm_X10_work_0 8 rfl
theorem dX10_work_15 : decode cX10_work 15 = .ok (.bipush 40, 2) := dd_get dm_X10_work_0 9 rfl
theorem dX10_work_17 : decode cX10_work 17 = .ok (.idiv, 1) := dd_get dm_X10_work_0 10 rfl
theorem dX10_work_18 : decode cX10_work 18 = .ok (.iload_n 1, 1) := dd_get dm_X10_work_0 11 rfl
theorem dX10_work_19 : decode cX10_work 19 = .ok (.bipush 40, 2) := dd_get dm_X10_work_0 12 rfl
theorem dX10_work_21 : decode cX10_work 21 = .ok (.irem, 1) := dd_get dm_X10_work_0 13 rfl
theorem dX10_work_22 : decode cX10_work 22 = .ok (.if_icmp .ne 7, 3) := dd_get dm_X10_work_0 14 rfl
theorem dX10_work_25 : decode cX10_work 25 = .ok (.iconst 0, 1) := dd_get dm_X10_work_0 15 rfl
theorem dX10_work_26 : decode cX10_work 26 = .ok (.goto 5, 3) := dd_get dm_X10_work_0 16 rfl
theorem dX10_work_29 : decode cX10_work 29 = .ok (.ldc 102, 2) := dd_get dm_X10_work_0 17 rfl
theorem dX10_work_31 : decode cX10_work 31 = .ok (.iastore, 1) := dd_get dm_X10_work_0 18 rfl
theorem dX10_work_32 : decode cX10_work 32 = .ok (.iinc 1 1, 3) := dd_get dm_X10_work_0 19 rfl
theorem dX10_work_35 : decode cX10_work 35 = .ok (.goto (-33), 3) := dd_get dm_X10_work_0 20 rfl
theorem dX10_work_38 : decode cX10_work 38 = .ok (.iconst 0, 1) := dd_get dm_X10_work_0 21 rfl
theorem dX10_work_39 : decode cX10_work 39 = .ok (.istore_n 1, 1) := dd_get dm_X10_work_0 22 rfl
theorem dX10_work_40 : decode cX10_work 40 = .ok (.iload_n 1, 1) := dd_get dm_X10_work_0 23 rfl
theorem dX10_work_41 : decode cX10_work 41 = .ok (.aload_n 0, 1) := dd_get dm_X10_work_0 24 rfl
theorem dX10_work_42 : decode cX10_work 42 = .ok (.getfield 103, 3) := dd_get dm_X10_work_0 25 rfl
theorem dX10_work_45 : decode cX10_work 45 = .ok (.if_icmp .ge 100, 3) := dd_get dm_X10_work_0 26 rfl
theorem dX10_work_48 : decode cX10_work 48 = .ok (.aload_n 0, 1) := dd_get dm_X10_work_0 27 rfl
theorem dX10_work_49 : decode cX10_work 49 = .ok (.getfield 19, 3) := dd_get dm_X10_work_0 28 rfl
theorem dX10_work_52 : decode cX10_work 52 = .ok (.iload_n 1, 1) := dd_get dm_X10_work_0 29 rfl
theorem dX10_work_53 : decode cX10_work 53 = .ok (.baload, 1) := dd_get dm_X10_work_0 30 rfl
theorem dX10_work_54 : decode cX10_work 54 = .ok (.ifCond .eq 85, 3) := dd_get dm_X10_work_0 31 rfl
theorem dX10_work_57 : decode cX10_work 57 = .ok (.bipush 40, 2) := dd_get dm_X10_work_0 32 rfl
theorem dX10_work_59 : decode cX10_work 59 = .ok (.aload_n 0, 1) := dd_get dm_X10_work_0 33 rfl
theorem dX10_work_60 : decode cX10_work 60 = .ok (.getfield 7, 3) := dd_get dm_X10_work_0 34 rfl
theorem dX10_work_63 : decode cX10_work 63 = .ok (.iload_n 1, 1) := dd_get dm_X10_work_0 35 rfl
theorem dX10_work_64 : decode cX10_work 64 = .ok (.iaload, 1) := dd_get dm_X10_work_0 36 rfl
theorem dX10_work_65 : decode cX10_work 65 = .ok (.imul, 1) := dd_get dm_X10_work_0 37 rfl
theorem dX10_work_66 : decode cX10_work 66 = .ok (.aload_n 0, 1) := dd_get dm_X10_work_0 38 rfl
theorem dX10_work_67 : decode cX10_work 67 = .ok (.getfield 13, 3) := dd_get dm_X10_work_0 39 rfl
theorem dX10_work_70 : decode cX10_work 70 = .ok (.iload_n 1, 1) := dd_get dm_X10_work_0 40 rfl
theorem dX10_work_71 : decode cX10_work 71 = .ok (.iaload, 1) := dd_get dm_X10_work_0 41 rfl
theorem dX10_work_72 : decode cX10_work 72 = .ok (.iadd, 1) := dd_get dm_X10_work_0 42 rfl
theorem dX10_work_73 : decode cX10_work 73 = .ok (.istore_n 2, 1) := dd_get dm_X10_work_0 43 rfl
theorem dX10_work_74 : decode cX10_work 74 = .ok (.bipush 40, 2) := dd_get dm_X10_work_0 44 rfl
theorem dX10_work_76 : decode cX10_work 76 = .ok (.aload_n 0, 1) := dd_get dm_X10_work_0 45 rfl
theorem dX10_work_77 : decode cX10_work 77 = .ok (.getfield 13, 3) := dd_get dm_X10_work_0 46 rfl
theorem dX10_work_80 : decode cX10_work 80 = .ok (.iload_n 1, 1) := dd_get dm_X10_work_0 47 rfl
theorem dX10_work_81 : decode cX10_work 81 = .ok (.iaload, 1) := dd_get dm_X10_work_0 48 rfl
theorem dX10_work_82 : decode cX10_work 82 = .ok (.imul, 1) := dd_get dm_X10_work_0 49 rfl
theorem dX10_work_83 : decode cX10_work 83 = .ok (.aload_n 0, 1) := dd_get dm_X10_work_0 50 rfl
theorem dX10_work_84 : decode cX10_work 84 = .ok (.getfield 7, 3) := dd_get dm_X10_work_0 51 rfl
theorem dX10_work_87 : decode cX10_work 87 = .ok (.iload_n 1, 1) := dd_get dm_X10_work_0 52 rfl
theorem dX10_work_88 : decode cX10_work 88 = .ok (.iaload, 1) := dd_get dm_X10_work_0 53 rfl
theorem dX10_work_89 : decode cX10_work 89 = .ok (.iadd, 1) := dd_get dm_X10_work_0 54 rfl
theorem dX10_work_90 : decode cX10_work 90 = .ok (.istore_n 3, 1) := dd_get dm_X10_work_0 55 rfl
theorem dX10_work_91 : decode cX10_work 91 = .ok (.aload_n 0, 1) := dd_get dm_X10_work_0 56 rfl
theorem dX10_work_92 : decode cX10_work 92 = .ok (.getfield 33, 3) := dd_get dm_X10_work_0 57 rfl
theorem dX10_work_95 : decode cX10_work 95 = .ok (.iload_n 2, 1) := dd_get dm_X10_work_0 58 rfl
theorem dX10_work_96 : decode cX10_work 96 = .ok (.aload_n 0, 1) := dd_get dm_X10_work_0 59 rfl
theorem dm_X10_work_1 : (([(97, .getfield 16, 3), (100, .iload_n 1, 1), (101, .iaload, 1), (102, .aload_n 0, 1), (103, .getfield 33, 3), (106, .iload_n 2, 1), (107, .iaload, 1), (108, .if_icmp .ge 12, 3), (111, .aload_n 0, 1), (112, .getfield 16, 3), (115, .iload_n 1, 1), (116, .iaload, 1), (117, .goto 9, 3), (120, .aload_n 0, 1), (121, .getfield 33, 3), (124, .iload_n 2, 1), (125, .iaload, 1), (126, .iastore, 1), (127, .aload_n 0, 1), (128, .getfield 33, 3), (131, .iload_n 3, 1), (132, .aload_n 0, 1), (133, .getfield 33, 3), (136, .iload_n 2, 1), (137, .iaload, 1), (138, .iastore, 1), (139, .iinc 1 1, 3), (142, .goto (-102), 3), (145, .iconst 0, 1), (146, .istore_n 1, 1), (147, .iload_n 1, 1), (148, .bipush 40, 2), (150, .if_icmp .ge 80, 3), (153, .iconst 0, 1), (154, .istore_n 2, 1), (155, .iload_n 2, 1), (156, .sipush 1600, 3), (159, .if_icmp .ge 65, 3), (162, .aload_n 0, 1), (163, .getfield 33, 3), (166, .iload_n 2, 1), (167, .bipush 40, 2), (169, .idiv, 1), (170, .bipush 40, 2), (172, .imul, 1), (173, .iload_n 1, 1), (174, .iadd, 1), (175, .iaload, 1), (176, .aload_n 0, 1), (177, .getfield 33, 3), (180, .bipush 40, 2), (182, .iload_n 1, 1), (183, .imul, 1), (184, .iload_n 2, 1), (185, .bipush 40, 2), (187, .irem, 1), (188, .iadd, 1), (189, .iaload, 1), (190, .iadd, 1), (191, .istore_n 3, 1)] : List (Nat × Instr × Nat)).all fun q => decide (decode cX10_work q.1 = .ok (q.2.1, q.2.2))) = true := by decide +kernel
theorem dX10_work_97 : decode cX10_work 97 = .ok (.getfield 16, 3) := dd_get dm_X10_work_1 0 rfl
theorem dX10_work_100 : decode cX10_work 100 = .ok (.iload_n 1, 1) := dd_get dm_X10_work_1 1 rfl
theorem dX10_work_101 : decode cX10_work 101 = .ok (.iaload, 1) := dd_get dm_X10_work_1 2 rfl
theorem dX10_work_102 : decode cX10_work 102 = .ok (.aload_n 0, 1) := dd_get dm_X10_work_1 3 rfl
theorem dX10_work_103 : decode cX10_work 103 = .ok (.getfield 33, 3) := dd_get dm_X10_work_1 4 rfl
theorem dX10_work_106 : decode cX10_work 106 = .ok (.iload_n 2, 1) := dd_get dm_X10_work_1 5 rfl
theorem dX10_work_107 : decode cX10_work 107 = .ok (.iaload, 1) := dd_get dm_X10_work_1 6 rfl
theorem dX10_work_108 : decode cX10_work 108 = .ok (.if_icmp .ge 12, 3) := dd_get dm_X10_work_1 7 rfl
theorem dX10_work_111 : decode cX10_work 111 = .ok (.aload_n 0, 1) := dd_get dm_X10_work_1 8 rfl
theorem dX10_work_112 : decode cX10_work 112 = .ok (.getfield 16, 3) := dd_get dm_X10_work_1 9 rfl
theorem dX10_work_115 : decode cX10_work 115 = .ok (.iload_n 1, 1) := dd_get dm_X10_work_1 10 rfl
theorem dX10_work_116 : decode cX10_work 116 = .ok (.iaload, 1) := dd_get dm_X10_work_1 11 rfl
theorem dX10_work_117 : decode cX10_work 117 = .ok (.goto 9, 3) := dd_get dm_X10_work_1 12 rfl
theorem dX10_work_120 : decode cX10_work 120 = .ok (.aload_n 0, 1) := dd_get dm_X10_work_1 13 rfl
theorem dX10_work_121 : decode cX10_work 121 = .ok (.getfield 33, 3) := dd_get dm_X10_work_1 14 rfl
theorem dX10_work_124 : decode cX10_work 124 = .ok (.iload_n 2, 1) := dd_get dm_X10_work_1 15 rfl
theorem dX10_work_125 : decode cX10_work 125 = .ok (.iaload, 1) := dd_get dm_X10_work_1 16 rfl
theorem dX10_work_126 : decode cX10_work 126 = .ok (.iastore, 1) := dd_get dm_X10_work_1 17 rfl
theorem dX10_work_127 : decode cX10_work 127 = .ok (.aload_n 0, 1) := dd_get dm_X10_work_1 18 rfl
theorem dX10_work_128 : decode cX10_work 128 = .ok (.getfield 33, 3) := dd_get dm_X10_work_1 19 rfl
theorem dX10_work_131 : decode cX10_work 131 = .ok (.iload_n 3, 1) := dd_get dm_X10_work_1 20 rfl
theorem dX10_work_132 : decode cX10_work 132 = .ok (.aload_n 0, 1) := dd_get dm_X10_work_1 21 rfl
theorem dX10_work_133 : decode cX10_work 133 = .ok (.getfield 33, 3) := dd_get dm_X10_work_1 22 rfl
theorem dX10_work_136 : decode cX10_work 136 = .ok (.iload_n 2, 1) := dd_get dm_X10_work_1 23 rfl
theorem dX10_work_137 : decode cX10_work 137 = .ok (.iaload, 1) := dd_get dm_X10_work_1 24 rfl
theorem dX10_work_138 : decode cX10_work 138 = .ok (.iastore, 1) := dd_get dm_X10_work_1 25 rfl
theorem dX10_work_139 : decode cX10_work 139 = .ok (.iinc 1 1, 3) := dd_get dm_X10_work_1 26 rfl
theorem dX10_work_142 : decode cX10_work 142 = .ok (.goto (-102), 3) := dd_get dm_X10_work_1 27 rfl
theorem dX10_work_145 : decode cX10_work 145 = .ok (.iconst 0, 1) := dd_get dm_X10_work_1 28 rfl
theorem dX10_work_146 : decode cX10_work 146 = .ok (.istore_n 1, 1) := dd_get dm_X10_work_1 29 rfl
theorem dX10_work_147 : decode cX10_work 147 = .ok (.iload_n 1, 1) := dd_get dm_X10_work_1 30 rfl
theorem dX10_work_148 : decode cX10_work 148 = .ok (.bipush 40, 2) := dd_get dm_X10_work_1 31 rfl
theorem dX10_work_150 : decode cX10_work 150 = .ok (.if_icmp .ge 80, 3) := dd_get dm_X10_work_1 32 rfl
theorem dX10_work_153 : decode cX10_work 153 = .ok (.iconst 0, 1) := dd_get dm_X10_work_1 33 rfl
theorem dX10_work_154 : decode cX10_work 154 = .ok (.istore_n 2, 1) := dd_get dm_X10_work_1 34 rfl
theorem dX10_work_155 : decode cX10_work 155 = .ok (.iload_n 2, 1) := dd_get dm_X10_work_1 35 rfl
theorem dX10_work_156 : decode cX10_work 156 = .ok (.sipush 1600, 3) := dd_get dm_X10_work_1 36 rfl
theorem dX10_work_159 : decode cX10_work 159 = .ok (.if_icmp .ge 65, 3) := dd_get dm_X10_work_1 37 rfl
theorem dX10_work_162 : decode cX10_work 162 = .ok (.aload_n 0, 1) := dd_get dm_X10_work_1 38 rfl
theorem dX10_work_163 : decode cX10_work 163 = .ok (.getfield 33, 3) := dd_get dm_X10_work_1 39 rfl
theorem dX10_work_166 : decode cX10_work 166 = .ok (.iload_n 2, 1) := dd_get dm_X10_work_1 40 rfl
theorem dX10_work_167 : decode cX10_work 167 = .ok (.bipush 40, 2) := dd_get dm_X10_work_1 41 rfl
theorem dX10_work_169 : decode cX10_work 169 = .ok (.idiv, 1) := dd_get dm_X10_work_1 42 rfl
theorem dX10_work_170 : decode cX10_work 170 = .ok (.bipush 40, 2) := dd_get dm_X10_work_1 43 rfl
theorem dX10_work_172 : decode cX10_work 172 = .ok (.imul, 1) := dd_get dm_X10_work_1 44 rfl
theorem dX10_work_173 : decode cX10_work 173 = .ok (.iload_n 1, 1) := dd_get dm_X10_work_1 45 rfl
theorem dX10_work_174 : decode cX10_work 174 = .ok (.iadd, 1) := dd_get dm_X10_work_1 46 rfl
theorem dX10_work_175 : decode cX10_work 175 = .ok (.iaload, 1) := dd_get dm_X10_work_1 47 rfl
theorem dX10_work_176 : decode cX10_work 176 = .ok (.aload_n 0, 1) := dd_get dm_X10_work_1 48 rfl
theorem dX10_work_177 : decode cX10_work 177 = .ok (.getfield 33, 3) := dd_get dm_X10_work_1 49 rfl
theorem dX10_work_180 : decode cX10_work 180 = .ok (.bipush 40, 2) := dd_get dm_X10_work_1 50 rfl
theorem dX10_work_182 : decode cX10_work 182 = .ok (.iload_n 1, 1) := dd_get dm_X10_work_1 51 rfl
theorem dX10_work_183 : decode cX10_work 183 = .ok (.imul, 1) := dd_get dm_X10_work_1 52 rfl
theorem dX10_work_184 : decode cX10_work 184 = .ok (.iload_n 2, 1) := dd_get dm_X10_work_1 53 rfl
theorem dX10_work_185 : decode cX10_work 185 = .ok (.bipush 40, 2) := dd_get dm_X10_work_1 54 rfl
theorem dX10_work_187 : decode cX10_work 187 = .ok (.irem, 1) := dd_get dm_X10_work_1 55 rfl
theorem dX10_work_188 : decode cX10_work 188 = .ok (.iadd, 1) := dd_get dm_X10_work_1 56 rfl
theorem dX10_work_189 : decode cX10_work 189 = .ok (.iaload, 1) := dd_get dm_X10_work_1 57 rfl
theorem dX10_work_190 : decode cX10_work 190 = .ok (.iadd, 1) := dd_get dm_X10_work_1 58 rfl
theorem dX10_work_191 : decode cX10_work 191 = .ok (.istore_n 3, 1) := dd_get dm_X10_work_1 59 rfl
theorem dm_X10_work_2 : (([(192, .aload_n 0, 1), (193, .getfield 33, 3), (196, .iload_n 2, 1), (197, .iload_n 3, 1), (198, .aload_n 0, 1), (199, .getfield 33, 3), (202, .iload_n 2, 1), (203, .iaload, 1), (204, .if_icmp .ge 7, 3), (207, .iload_n 3, 1), (208, .goto 9, 3), (211, .aload_n 0, 1), (212, .getfield 33, 3), (215, .iload_n 2, 1), (216, .iaload, 1), (217, .iastore, 1), (218, .iinc 2 1, 3), (221, .goto (-66), 3), (224, .iinc 1 1, 3), (227, .goto (-80), 3), (230, .return_, 1)] : List (Nat × Instr × Nat)).all fun q => decide (decode cX10_work q.1 = .ok (q.2.1, q.2.2))) = true := by decide +kernel
theorem dX10_work_192 : decode cX10_work 192 = .ok (.aload_n 0, 1) := dd_get dm_X10_work_2 0 rfl
theorem dX10_work_193 : decode cX10_work 193 = .ok (.getfield 33, 3) := dd_get dm_X10_work_2 1 rfl
theorem dX10_work_196 : decode cX10_work 196 = .ok (.iload_n 2, 1) := dd_get dm_X10_work_2 2 rfl
theorem dX10_work_197 : decode cX10_work 197 = .ok (.iload_n 3, 1) := dd_get dm_X10_work_2 3 rfl
theorem dX10_work_198 : decode cX10_work 198 = .ok (.aload_n 0, 1) := dd_get dm_X10_work_2 4 rfl
theorem dX10_work_199 : decode cX10_work 199 = .ok (.getfield 33, 3) := dd_get dm_X10_work_2 5 rfl
theorem dX10_work_202 : decode cX10_work 202 = .ok (.iload_n 2, 1) := dd_get dm_X10_work_2 6 rfl
theorem dX10_work_203 : decode cX10_work 203 = .ok (.iaload, 1) := dd_get dm_X10_work_2 7 rfl
theorem dX10_work_204 : decode cX10_work 204 = .ok (.if_icmp .ge 7, 3) := dd_get dm_X10_work_2 8 rfl
theorem dX10_work_207 : decode cX10_work 207 = .ok (.iload_n 3, 1) := dd_get dm_X10_work_2 9 rfl
theorem dX10_work_208 : decode cX10_work 208 = .ok (.goto 9, 3) := dd_get dm_X10_work_2 10 rfl
theorem dX10_work_211 : decode cX10_work 211 = .ok (.aload_n 0, 1) := dd_get dm_X10_work_2 11 rfl
theorem dX10_work_212 : decode cX10_work 212 = .ok (.getfield 33, 3) := dd_get dm_X10_work_2 12 rfl
theorem dX10_work_215 : decode cX10_work 215 = .ok (.iload_n 2, 1) := dd_get dm_X10_work_2 13 rfl
theorem dX10_work_216 : decode cX10_work 216 = .ok (.iaload, 1) := dd_get dm_X10_work_2 14 rfl
theorem dX10_work_217 : decode cX10_work 217 = .ok (.iastore, 1) := dd_get dm_X10_work_2 15 rfl
theorem dX10_work_218 : decode cX10_work 218 = .ok (.iinc 2 1, 3) := dd_get dm_X10_work_2 16 rfl
theorem dX10_work_221 : decode cX10_work 221 = .ok (.goto (-66), 3) := dd_get dm_X10_work_2 17 rfl
theorem dX10_work_224 : decode cX10_work 224 = .ok (.iinc 1 1, 3) := dd_get dm_X10_work_2 18 rfl
theorem dX10_work_227 : decode cX10_work 227 = .ok (.goto (-80), 3) := dd_get dm_X10_work_2 19 rfl
theorem dX10_work_230 : decode cX10_work 230 = .ok (.return_, 1) := dd_get dm_X10_work_2 20 rfl
theorem dm_X10_isCrossing_0 : (([(0, .iload_n 0, 1), (1, .ifCond .lt 13, 3), (4, .iload_n 0, 1), (5, .bipush 40, 2), (7, .if_icmp .ge 7, 3), (10, .iconst 1, 1), (11, .goto 4, 3), (14, .iconst 0, 1), (15, .ireturn, 1)] : List (Nat × Instr × Nat)).all fun q => decide (decode cX10_isCrossing q.1 = .ok (q.2.1, q.2.2))) = true := by decide +kernel
theorem dX10_isCrossing_0 : decode cX10_isCrossing 0 = .ok (.iload_n 0, 1) := dd_get dm_X10_isCrossing_0 0 rfl
theorem dX10_isCrossing_1 : decode cX10_isCrossing 1 = .ok (.ifCond .lt 13, 3) := dd_get dm_X10_isCrossing_0 1 rfl
theorem dX10_isCrossing_4 : decode cX10_isCrossing 4 = .ok (.iload_n 0, 1) := dd_get dm_X10_isCrossing_0 2 rfl
theorem dX10_isCrossing_5 : decode cX10_isCrossing 5 = .ok (.bipush 40, 2) := dd_get dm_X10_isCrossing_0 3 rfl
theorem dX10_isCrossing_7 : decode cX10_isCrossing 7 = .ok (.if_icmp .ge 7, 3) := dd_get dm_X10_isCrossing_0 4 rfl
theorem dX10_isCrossing_10 : decode cX10_isCrossing 10 = .ok (.iconst 1, 1) := dd_get dm_X10_isCrossing_0 5 rfl
theorem dX10_isCrossing_11 : decode cX10_isCrossing 11 = .ok (.goto 4, 3) := dd_get dm_X10_isCrossing_0 6 rfl
theorem dX10_isCrossing_14 : decode cX10_isCrossing 14 = .ok (.iconst 0, 1) := dd_get dm_X10_isCrossing_0 7 rfl
theorem dX10_isCrossing_15 : decode cX10_isCrossing 15 = .ok (.ireturn, 1) := dd_get dm_X10_isCrossing_0 8 rfl
theorem dm_X10_isLane_0 : (([(0, .iload_n 1, 1), (1, .ifCond .lt 15, 3), (4, .iload_n 1, 1), (5, .aload_n 0, 1), (6, .getfield 103, 3), (9, .if_icmp .ge 7, 3), (12, .iconst 1, 1), (13, .goto 4, 3), (16, .iconst 0, 1), (17, .ireturn, 1)] : List (Nat × Instr × Nat)).all fun q => decide (decode cX10_isLane q.1 = .ok (q.2.1, q.2.2))) = true := by decide +kernel
theorem dX10_isLane_0 : decode cX10_isLane 0 = .ok (.iload_n 1, 1) := dd_get dm_X10_isLane_0 0 rfl
theorem dX10_isLane_1 : decode cX10_isLane 1 = .ok (.ifCond .lt 15, 3) := dd_get dm_X10_isLane_0 1 rfl
theorem dX10_isLane_4 : decode cX10_isLane 4 = .ok (.iload_n 1, 1) := dd_get dm_X10_isLane_0 2 rfl
theorem dX10_isLane_5 : decode cX10_isLane 5 = .ok (.aload_n 0, 1) := dd_get dm_X10_isLane_0 3 rfl
theorem dX10_isLane_6 : decode cX10_isLane 6 = .ok (.getfield 103, 3) := dd_get dm_X10_isLane_0 4 rfl
theorem dX10_isLane_9 : decode cX10_isLane 9 = .ok (.if_icmp .ge 7, 3) := dd_get dm_X10_isLane_0 5 rfl
theorem dX10_isLane_12 : decode cX10_isLane 12 = .ok (.iconst 1, 1) := dd_get dm_X10_isLane_0 6 rfl
theorem dX10_isLane_13 : decode cX10_isLane 13 = .ok (.goto 4, 3) := dd_get dm_X10_isLane_0 7 rfl
theorem dX10_isLane_16 : decode cX10_isLane 16 = .ok (.iconst 0, 1) := dd_get dm_X10_isLane_0 8 rfl
theorem dX10_isLane_17 : decode cX10_isLane 17 = .ok (.ireturn, 1) := dd_get dm_X10_isLane_0 9 rfl
theorem dm_X10_isLamp_0 : (([(0, .iload_n 1, 1), (1, .ifCond .lt 15, 3), (4, .iload_n 1, 1), (5, .aload_n 0, 1), (6, .getfield 107, 3), (9, .if_icmp .ge 7, 3), (12, .iconst 1, 1), (13, .goto 4, 3), (16, .iconst 0, 1), (17, .ireturn, 1)] : List (Nat × Instr × Nat)).all fun q => decide (decode cX10_isLamp q.1 = .ok (q.2.1, q.2.2))) = true := by decide +kernel
theorem dX10_isLamp_0 : decode cX10_isLamp 0 = .ok (.iload_n 1, 1) := dd_get dm_X10_isLamp_0 0 rfl
theorem dX10_isLamp_1 : decode cX10_isLamp 1 = .ok (.ifCond .lt 15, 3) := dd_get dm_X10_isLamp_0 1 rfl
theorem dX10_isLamp_4 : decode cX10_isLamp 4 = .ok (.iload_n 1, 1) := dd_get dm_X10_isLamp_0 2 rfl
theorem dX10_isLamp_5 : decode cX10_isLamp 5 = .ok (.aload_n 0, 1) := dd_get dm_X10_isLamp_0 3 rfl
theorem dX10_isLamp_6 : decode cX10_isLamp 6 = .ok (.getfield 107, 3) := dd_get dm_X10_isLamp_0 4 rfl
theorem dX10_isLamp_9 : decode cX10_isLamp 9 = .ok (.if_icmp .ge 7, 3) := dd_get dm_X10_isLamp_0 5 rfl
theorem dX10_isLamp_12 : decode cX10_isLamp 12 = .ok (.iconst 1, 1) := dd_get dm_X10_isLamp_0 6 rfl
theorem dX10_isLamp_13 : decode cX10_isLamp 13 = .ok (.goto 4, 3) := dd_get dm_X10_isLamp_0 7 rfl
theorem dX10_isLamp_16 : decode cX10_isLamp 16 = .ok (.iconst 0, 1) := dd_get dm_X10_isLamp_0 8 rfl
theorem dX10_isLamp_17 : decode cX10_isLamp 17 = .ok (.ireturn, 1) := dd_get dm_X10_isLamp_0 9 rfl
theorem dm_X10_isLit_0 : (([(0, .aload_n 0, 1), (1, .iload_n 1, 1), (2, .invokevirtual 110, 3), (5, .ifCond .eq 16, 3), (8, .aload_n 0, 1), (9, .getfield 45, 3), (12, .iload_n 1, 1), (13, .baload, 1), (14, .ifCond .ne 7, 3), (17, .iconst 1, 1), (18, .goto 4, 3), (21, .iconst 0, 1), (22, .ireturn, 1)] : List (Nat × Instr × Nat)).all fun q => decide (decode cX10_isLit q.1 = .ok (q.2.1, q.2.2))) = true := by decide +kernel
theorem dX10_isLit_0 : decode cX10_isLit 0 = .ok (.aload_n 0, 1) := dd_get dm_X10_isLit_0 0 rfl
theorem dX10_isLit_1 : decode cX10_isLit 1 = .ok (.iload_n 1, 1) := dd_get dm_X10_isLit_0 1 rfl
theorem dX10_isLit_2 : decode cX10_isLit 2 = .ok (.invokevirtual 110, 3) := dd_get dm_X10_isLit_0 2 rfl
theorem dX10_isLit_5 : decode cX10_isLit 5 = .ok (.ifCond .eq 16, 3) := dd_get dm_X10_isLit_0 3 rfl
theorem dX10_isLit_8 : decode cX10_isLit 8 = .ok (.aload_n 0, 1) := dd_get dm_X10_isLit_0 4 rfl
theorem dX10_isLit_9 : decode cX10_isLit 9 = .ok (.getfield 45, 3) := dd_get dm_X10_isLit_0 5 rfl
theorem dX10_isLit_12 : decode cX10_isLit 12 = .ok (.iload_n 1, 1) := dd_get dm_X10_isLit_0 6 rfl
theorem dX10_isLit_13 : decode cX10_isLit 13 = .ok (.baload, 1) := dd_get dm_X10_isLit_0 7 rfl
theorem dX10_isLit_14 : decode cX10_isLit 14 = .ok (.ifCond .ne 7, 3) := dd_get dm_X10_isLit_0 8 rfl
theorem dX10_isLit_17 : decode cX10_isLit 17 = .ok (.iconst 1, 1) := dd_get dm_X10_isLit_0 9 rfl
theorem dX10_isLit_18 : decode cX10_isLit 18 = .ok (.goto 4, 3) := dd_get dm_X10_isLit_0 10 rfl
theorem dX10_isLit_21 : decode cX10_isLit 21 = .ok (.iconst 0, 1) := dd_get dm_X10_isLit_0 11 rfl
theorem dX10_isLit_22 : decode cX10_isLit 22 = .ok (.ireturn, 1) := dd_get dm_X10_isLit_0 12 rfl
theorem dm_X10_lit_0 : (([(0, .iconst 0, 1), (1, .istore_n 1, 1), (2, .iconst 0, 1), (3, .istore_n 2, 1), (4, .iload_n 2, 1), (5, .aload_n 0, 1), (6, .getfield 107, 3), (9, .if_icmp .ge 26, 3), (12, .iload_n 1, 1), (13, .aload_n 0, 1), (14, .getfield 45, 3), (17, .iload_n 2, 1), (18, .baload, 1), (19, .ifCond .eq 7, 3), (22, .iconst 0, 1), (23, .goto 4, 3), (26, .iconst 1, 1), (27, .iadd, 1), (28, .istore_n 1, 1), (29, .iinc 2 1, 3), (32, .goto (-28), 3), (35, .iload_n 1, 1), (36, .ireturn, 1)] : List (Nat × Instr × Nat)).all fun q => decide (decode cX10_lit q.1 = .ok (q.2.1, q.2.2))) = true := by decide +kernel
theorem dX10_lit_0 : decode cX10_lit 0 = .ok (.iconst 0, 1) := dd_get dm_X10_lit_0 0 rfl
theorem dX10_lit_1 : decode cX10_lit 1 = .ok (.istore_n 1, 1) := dd_get dm_X10_lit_0 1 rfl
theorem dX10_lit_2 : decode cX10_lit 2 = .ok (.iconst 0, 1) := dd_get dm_X10_lit_0 2 rfl
theorem dX10_lit_3 : decode cX10_lit 3 = .ok (.istore_n 2, 1) := dd_get dm_X10_lit_0 3 rfl
theorem dX10_lit_4 : decode cX10_lit 4 = .ok (.iload_n 2, 1) := dd_get dm_X10_lit_0 4 rfl
theorem dX10_lit_5 : decode cX10_lit 5 = .ok (.aload_n 0, 1) := dd_get dm_X10_lit_0 5 rfl
theorem dX10_lit_6 : decode cX10_lit 6 = .ok (.getfield 107, 3) := dd_get dm_X10_lit_0 6 rfl
theorem dX10_lit_9 : decode cX10_lit 9 = .ok (.if_icmp .ge 26, 3) := dd_get dm_X10_lit_0 7 rfl
theorem dX10_lit_12 : decode cX10_lit 12 = .ok (.iload_n 1, 1) := dd_get dm_X10_lit_0 8 rfl
theorem dX10_lit_13 : decode cX10_lit 13 = .ok (.aload_n 0, 1) := dd_get dm_X10_lit_0 9 rfl
theorem dX10_lit_14 : decode cX10_lit 14 = .ok (.getfield 45, 3) := dd_get dm_X10_lit_0 10 rfl
theorem dX10_lit_17 : decode cX10_lit 17 = .ok (.iload_n 2, 1) := dd_get dm_X10_lit_0 11 rfl
theorem dX10_lit_18 : decode cX10_lit 18 = .ok (.baload, 1) := dd_get dm_X10_lit_0 12 rfl
theorem dX10_lit_19 : decode cX10_lit 19 = .ok (.ifCond .eq 7, 3) := dd_get dm_X10_lit_0 13 rfl
theorem dX10_lit_22 : decode cX10_lit 22 = .ok (.iconst 0, 1) := dd_get dm_X10_lit_0 14 rfl
theorem dX10_lit_23 : decode cX10_lit 23 = .ok (.goto 4, 3) := dd_get dm_X10_lit_0 15 rfl
theorem dX10_lit_26 : decode cX10_lit 26 = .ok (.iconst 1, 1) := dd_get dm_X10_lit_0 16 rfl
theorem dX10_lit_27 : decode cX10_lit 27 = .ok (.iadd, 1) := dd_get dm_X10_lit_0 17 rfl
theorem dX10_lit_28 : decode cX10_lit 28 = .ok (.istore_n 1, 1) := dd_get dm_X10_lit_0 18 rfl
theorem dX10_lit_29 : decode cX10_lit 29 = .ok (.iinc 2 1, 3) := dd_get dm_X10_lit_0 19 rfl
theorem dX10_lit_32 : decode cX10_lit 32 = .ok (.goto (-28), 3) := dd_get dm_X10_lit_0 20 rfl
theorem dX10_lit_35 : decode cX10_lit 35 = .ok (.iload_n 1, 1) := dd_get dm_X10_lit_0 21 rfl
theorem dX10_lit_36 : decode cX10_lit 36 = .ok (.ireturn, 1) := dd_get dm_X10_lit_0 22 rfl
theorem dm_X10_between_0 : (([(0, .aload_n 0, 1), (1, .getfield 33, 3), (4, .bipush 40, 2), (6, .aload_n 0, 1), (7, .getfield 36, 3), (10, .iload_n 1, 1), (11, .iaload, 1), (12, .imul, 1), (13, .aload_n 0, 1), (14, .getfield 36, 3), (17, .iload_n 2, 1), (18, .iaload, 1), (19, .iadd, 1), (20, .iaload, 1), (21, .ireturn, 1)] : List (Nat × Instr × Nat)).all fun q => decide (decode cX10_between q.1 = .ok (q.2.1, q.2.2))) = true := by decide +kernel
theorem dX10_between_0 : decode cX10_between 0 = .ok (.aload_n 0, 1) := dd_get dm_X10_between_0 0 rfl
theorem dX10_between_1 : decode cX10_between 1 = .ok (.getfield 33, 3) := dd_get dm_X10_between_0 1 rfl
theorem dX10_between_4 : decode cX10_between 4 = .ok (.bipush 40, 2) := dd_get dm_X10_between_0 2 rfl
theorem dX10_between_6 : decode cX10_between 6 = .ok (.aload_n 0, 1) := dd_get dm_X10_between_0 3 rfl
theorem dX10_between_7 : decode cX10_between 7 = .ok (.getfield 36, 3) := dd_get dm_X10_between_0 4 rfl
theorem dX10_between_10 : decode cX10_between 10 = .ok (.iload_n 1, 1) := dd_get dm_X10_between_0 5 rfl
theorem dX10_between_11 : decode cX10_between 11 = .ok (.iaload, 1) := dd_get dm_X10_between_0 6 rfl
theorem dX10_between_12 : decode cX10_between 12 = .ok (.imul, 1) := dd_get dm_X10_between_0 7 rfl
theorem dX10_between_13 : decode cX10_between 13 = .ok (.aload_n 0, 1) := dd_get dm_X10_between_0 8 rfl
theorem dX10_between_14 : decode cX10_between 14 = .ok (.getfield 36, 3) := dd_get dm_X10_between_0 9 rfl
theorem dX10_between_17 : decode cX10_between 17 = .ok (.iload_n 2, 1) := dd_get dm_X10_between_0 10 rfl
theorem dX10_between_18 : decode cX10_between 18 = .ok (.iaload, 1) := dd_get dm_X10_between_0 11 rfl
theorem dX10_between_19 : decode cX10_between 19 = .ok (.iadd, 1) := dd_get dm_X10_between_0 12 rfl
theorem dX10_between_20 : decode cX10_between 20 = .ok (.iaload, 1) := dd_get dm_X10_between_0 13 rfl
theorem dX10_between_21 : decode cX10_between 21 = .ok (.ireturn, 1) := dd_get dm_X10_between_0 14 rfl
theorem dm_X10_lane_0 : (([(0, .iload_n 1, 1), (1, .invokestatic 114, 3), (4, .ifCond .eq 27, 3), (7, .iload_n 2, 1), (8, .invokestatic 114, 3), (11, .ifCond .eq 20, 3), (14, .iload_n 1, 1), (15, .iload_n 2, 1), (16, .if_icmp .eq 15, 3), (19, .iload_n 3, 1), (20, .iconst 1, 1), (21, .if_icmp .lt 10, 3), (24, .iload_n 3, 1), (25, .sipush 1000, 3), (28, .if_icmp .le 5, 3), (31, .iconst (-1), 1), (32, .ireturn, 1), (33, .aload_n 0, 1), (34, .getfield 103, 3), (37, .bipush 100, 2), (39, .if_icmp .ne 6, 3), (42, .bipush (-2), 2), (44, .ireturn, 1), (45, .aload_n 0, 1), (46, .getfield 7, 3), (49, .aload_n 0, 1), (50, .getfield 103, 3), (53, .iload_n 1, 1), (54, .iastore, 1), (55, .aload_n 0, 1), (56, .getfield 13, 3), (59, .aload_n 0, 1), (60, .getfield 103, 3), (63, .iload_n 2, 1), (64, .iastore, 1), (65, .aload_n 0, 1), (66, .getfield 16, 3), (69, .aload_n 0, 1), (70, .getfield 103, 3), (73, .iload_n 3, 1), (74, .iastore, 1), (75, .aload_n 0, 1), (76, .getfield 19, 3), (79, .aload_n 0, 1), (80, .getfield 103, 3), (83, .iconst 1, 1), (84, .bastore, 1), (85, .aload_n 0, 1), (86, .dup, 1), (87, .getfield 103, 3), (90, .iconst 1, 1), (91, .iadd, 1), (92, .putfield 103, 3), (95, .aload_n 0, 1), (96, .iconst 0, 1), (97, .putfield 117, 3), (100, .aload_n 0, 1), (101, .invokevirtual 99, 3), (104, .aload_n 0, 1), (105, .getfield 103, 3)] : List (Nat × Instr × Nat)).all fun q => decide (decode cX10_lane q.1 = .ok (q.2.1, q.2.2))) = true := by decide +kernel
theorem dX10_lane_0 : decode cX10_lane 0 = .ok (.iload_n 1, 1) := dd_get dm_X10_lane_0 0 rfl
theorem dX10_lane_1 : decode cX10_lane 1 = .ok (.invokestatic 114, 3) := dd_get dm_X10_lane_0 1 rfl
theorem dX10_lane_4 : decode cX10_lane 4 = .ok (.ifCond .eq 27, 3) := dd_get dm_X10_lane_0 2 rfl
theorem dX10_lane_7 : decode cX10_lane 7 = .ok (.iload_n 2, 1) := dd_get dm_X10_lane_0 3 rfl
theorem dX10_lane_8 : decode cX10_lane 8 = .ok (.invokestatic 114, 3) := dd_get dm_X10_lane_0 4 rfl
theorem dX10_lane_11 : decode cX10_lane 11 = .ok (.ifCond .eq 20, 3) := dd_get dm_X10_lane_0 5 rfl
theorem dX10_lane_14 : decode cX10_lane 14 = .ok (.iload_n 1, 1) := dd_get dm_X10_lane_0 6 rfl
theorem dX10_lane_15 : decode cX10_lane 15 = .ok (.iload_n 2, 1) := dd_get dm_X10_lane_0 7 rfl
theorem dX10_lane_16 : decode cX10_lane 16 = .ok (.if_icmp .eq 15, 3) := dd_get dm_X10_lane_0 8 rfl
theorem dX10_lane_19 : decode cX10_lane 19 = .ok (.iload_n 3, 1) := dd_get dm_X10_lane_0 9 rfl
theorem dX10_lane_20 : decode cX10_lane 20 = .ok (.iconst 1, 1) := dd_get dm_X10_lane_0 10 rfl
theorem dX10_lane_21 : decode cX10_lane 21 = .ok (.if_icmp .lt 10, 3) := dd_get dm_X10_lane_0 11 rfl
theorem dX10_lane_24 : decode cX10_lane 24 = .ok (.iload_n 3, 1) := dd_get dm_X10_lane_0 12 rfl
theorem dX10_lane_25 : decode cX10_lane 25 = .ok (.sipush 1000, 3) := dd_get dm_X10_lane_0 13 rfl
theorem dX10_lane_28 : decode cX10_lane 28 = .ok (.if_icmp .le 5, 3) := dd_get dm_X10_lane_0 14 rfl
theorem dX10_lane_31 : decode cX10_lane 31 = .ok (.iconst (-1), 1) := dd_get dm_X10_lane_0 15 rfl
theorem dX10_lane_32 : decode cX10_lane 32 = .ok (.ireturn, 1) := dd_get dm_X10_lane_0 16 rfl
theorem dX10_lane_33 : decode cX10_lane 33 = .ok (.aload_n 0, 1) := dd_get dm_X10_lane_0 17 rfl
theorem dX10_lane_34 : decode cX10_lane 34 = .ok (.getfield 103, 3) := dd_get dm_X10_lane_0 18 rfl
theorem dX10_lane_37 : decode cX10_lane 37 = .ok (.bipush 100, 2) := dd_get dm_X10_lane_0 19 rfl
theorem dX10_lane_39 : decode cX10_lane 39 = .ok (.if_icmp .ne 6, 3) := dd_get dm_X10_lane_0 20 rfl
theorem dX10_lane_42 : decode cX10_lane 42 = .ok (.bipush (-2), 2) := dd_get dm_X10_lane_0 21 rfl
theorem dX10_lane_44 : decode cX10_lane 44 = .ok (.ireturn, 1) := dd_get dm_X10_lane_0 22 rfl
theorem dX10_lane_45 : decode cX10_lane 45 = .ok (.aload_n 0, 1) := dd_get dm_X10_lane_0 23 rfl
theorem dX10_lane_46 : decode cX10_lane 46 = .ok (.getfield 7, 3) := dd_get dm_X10_lane_0 24 rfl
theorem dX10_lane_49 : decode cX10_lane 49 = .ok (.aload_n 0, 1) := dd_get dm_X10_lane_0 25 rfl
theorem dX10_lane_50 : decode cX10_lane 50 = .ok (.getfield 103, 3) := dd_get dm_X10_lane_0 26 rfl
theorem dX10_lane_53 : decode cX10_lane 53 = .ok (.iload_n 1, 1) := dd_get dm_X10_lane_0 27 rfl
theorem dX10_lane_54 : decode cX10_lane 54 = .ok (.iastore, 1) := dd_get dm_X10_lane_0 28 rfl
theorem dX10_lane_55 : decode cX10_lane 55 = .ok (.aload_n 0, 1) := dd_get dm_X10_lane_0 29 rfl
theorem dX10_lane_56 : decode cX10_lane 56 = .ok (.getfield 13, 3) := dd_get dm_X10_lane_0 30 rfl
theorem dX10_lane_59 : decode cX10_lane 59 = .ok (.aload_n 0, 1) := dd_get dm_X10_lane_0 31 rfl
theorem dX10_lane_60 : decode cX10_lane 60 = .ok (.getfield 103, 3) := dd_get dm_X10_lane_0 32 rfl
theorem dX10_lane_63 : decode cX10_lane 63 = .ok (.iload_n 2, 1) := dd_get dm_X10_lane_0 33 rfl
theorem dX10_lane_64 : decode cX10_lane 64 = .ok (.iastore, 1) := dd_get dm_X10_lane_0 34 rfl
theorem dX10_lane_65 : decode cX10_lane 65 = .ok (.aload_n 0, 1) := dd_get dm_X10_lane_0 35 rfl
theorem dX10_lane_66 : decode cX10_lane 66 = .ok (.getfield 16, 3) := dd_get dm_X10_lane_0 36 rfl
theorem dX10_lane_69 : decode cX10_lane 69 = .ok (.aload_n 0, 1) := dd_get dm_X10_lane_0 37 rfl
theorem dX10_lane_70 : decode cX10_lane 70 = .ok (.getfield 103, 3) := dd_get dm_X10_lane_0 38 rfl
theorem dX10_lane_73 : decode cX10_lane 73 = .ok (.iload_n 3, 1) := dd_get dm_X10_lane_0 39 rfl
theorem dX10_lane_74 : decode cX10_lane 74 = .ok (.iastore, 1) := dd_get dm_X10_lane_0 40 rfl
theorem dX10_lane_75 : decode cX10_lane 75 = .ok (.aload_n 0, 1) := dd_get dm_X10_lane_0 41 rfl
theorem dX10_lane_76 : decode cX10_lane 76 = .ok (.getfield 19, 3) := dd_get dm_X10_lane_0 42 rfl
theorem dX10_lane_79 : decode cX10_lane 79 = .ok (.aload_n 0, 1) := dd_get dm_X10_lane_0 43 rfl
theorem dX10_lane_80 : decode cX10_lane 80 = .ok (.getfield 103, 3) := dd_get dm_X10_lane_0 44 rfl
theorem dX10_lane_83 : decode cX10_lane 83 = .ok (.iconst 1, 1) := dd_get dm_X10_lane_0 45 rfl
theorem dX10_lane_84 : decode cX10_lane 84 = .ok (.bastore, 1) := dd_get dm_X10_lane_0 46 rfl
theorem dX10_lane_85 : decode cX10_lane 85 = .ok (.aload_n 0, 1) := dd_get dm_X10_lane_0 47 rfl
theorem dX10_lane_86 : decode cX10_lane 86 = .ok (.dup, 1) := dd_get dm_X10_lane_0 48 rfl
theorem dX10_lane_87 : decode cX10_lane 87 = .ok (.getfield 103, 3) := dd_get dm_X10_lane_0 49 rfl
theorem dX10_lane_90 : decode cX10_lane 90 = .ok (.iconst 1, 1) := dd_get dm_X10_lane_0 50 rfl
theorem dX10_lane_91 : decode cX10_lane 91 = .ok (.iadd, 1) := dd_get dm_X10_lane_0 51 rfl
theorem dX10_lane_92 : decode cX10_lane 92 = .ok (.putfield 103, 3) := dd_get dm_X10_lane_0 52 rfl
theorem dX10_lane_95 : decode cX10_lane 95 = .ok (.aload_n 0, 1) := dd_get dm_X10_lane_0 53 rfl
theorem dX10_lane_96 : decode cX10_lane 96 = .ok (.iconst 0, 1) := dd_get dm_X10_lane_0 54 rfl
theorem dX10_lane_97 : decode cX10_lane 97 = .ok (.putfield 117, 3) := dd_get dm_X10_lane_0 55 rfl
theorem dX10_lane_100 : decode cX10_lane 100 = .ok (.aload_n 0, 1) := dd_get dm_X10_lane_0 56 rfl
theorem dX10_lane_101 : decode cX10_lane 101 = .ok (.invokevirtual 99, 3) := dd_get dm_X10_lane_0 57 rfl
theorem dX10_lane_104 : decode cX10_lane 104 = .ok (.aload_n 0, 1) := dd_get dm_X10_lane_0 58 rfl
theorem dX10_lane_105 : decode cX10_lane 105 = .ok (.getfield 103, 3) := dd_get dm_X10_lane_0 59 rfl
theorem dm_X10_lane_1 : (([(108, .iconst 1, 1), (109, .isub, 1), (110, .ireturn, 1)] : List (Nat × Instr × Nat)).all fun q => decide (decode cX10_lane q.1 = .ok (q.2.1, q.2.2))) = true := by decide +kernel
theorem dX10_lane_108 : decode cX10_lane 108 = .ok (.iconst 1, 1) := dd_get dm_X10_lane_1 0 rfl
theorem dX10_lane_109 : decode cX10_lane 109 = .ok (.isub, 1) := dd_get dm_X10_lane_1 1 rfl
theorem dX10_lane_110 : decode cX10_lane 110 = .ok (.ireturn, 1) := dd_get dm_X10_lane_1 2 rfl
theorem dm_X10_open_0 : (([(0, .aload_n 0, 1), (1, .iload_n 1, 1), (2, .invokevirtual 120, 3), (5, .ifCond .ne 5, 3), (8, .iconst (-1), 1), (9, .ireturn, 1), (10, .aload_n 0, 1), (11, .getfield 19, 3), (14, .iload_n 1, 1), (15, .baload, 1), (16, .iload_n 2, 1), (17, .if_icmp .ne 5, 3), (20, .iconst 0, 1), (21, .ireturn, 1), (22, .aload_n 0, 1), (23, .getfield 19, 3), (26, .iload_n 1, 1), (27, .iload_n 2, 1), (28, .bastore, 1), (29, .aload_n 0, 1), (30, .iconst 0, 1), (31, .putfield 117, 3), (34, .aload_n 0, 1), (35, .invokevirtual 99, 3), (38, .iconst 1, 1), (39, .ireturn, 1)] : List (Nat × Instr × Nat)).all fun q => decide (decode cX10_open q.1 = .ok (q.2.1, q.2.2))) = true := by decide +kernel
theorem dX10_open_0 : decode cX10_open 0 = .ok (.aload_n 0, 1) := dd_get dm_X10_open_0 0 rfl
theorem dX10_open_1 : decode cX10_open 1 = .ok (.iload_n 1, 1) := dd_get dm_X10_open_0 1 rfl
theorem dX10_open_2 : decode cX10_open 2 = .ok (.invokevirtual 120, 3) := dd_get dm_X10_open_0 2 rfl
theorem dX10_open_5 : decode cX10_open 5 = .ok (.ifCond .ne 5, 3) := dd_get dm_X10_open_0 3 rfl
theorem dX10_open_8 : decode cX10_open 8 = .ok (.iconst (-1), 1) := dd_get dm_X10_open_0 4 rfl
theorem dX10_open_9 : decode cX10_open 9 = .ok (.ireturn, 1) := dd_get dm_X10_open_0 5 rfl
theorem dX10_open_10 : decode cX10_open 10 = .ok (.aload_n 0, 1) := dd_get dm_X10_open_0 6 rfl
theorem dX10_open_11 : decode cX10_open 11 = .ok (.getfield 19, 3) := dd_get dm_X10_open_0 7 rfl
theorem dX10_open_14 : decode cX10_open 14 = .ok (.iload_n 1, 1) := dd_get dm_X10_open_0 8 rfl
theorem dX10_open_15 : decode cX10_open 15 = .ok (.baload, 1) := dd_get dm_X10_open_0 9 rfl
theorem dX10_open_16 : decode cX10_open 16 = .ok (.iload_n 2, 1) := dd_get dm_X10_open_0 10 rfl
theorem dX10_open_17 : decode cX10_open 17 = .ok (.if_icmp .ne 5, 3) := dd_get dm_X10_open_0 11 rfl
theorem dX10_open_20 : decode cX10_open 20 = .ok (.iconst 0, 1) := dd_get dm_X10_open_0 12 rfl
theorem dX10_open_21 : decode cX10_open 21 = .ok (.ireturn, 1) := dd_get dm_X10_open_0 13 rfl
theorem dX10_open_22 : decode cX10_open 22 = .ok (.aload_n 0, 1) := dd_get dm_X10_open_0 14 rfl
theorem dX10_open_23 : decode cX10_open 23 = .ok (.getfield 19, 3) := dd_get dm_X10_open_0 15 rfl
theorem dX10_open_26 : decode cX10_open 26 = .ok (.iload_n 1, 1) := dd_get dm_X10_open_0 16 rfl
theorem dX10_open_27 : decode cX10_open 27 = .ok (.iload_n 2, 1) := dd_get dm_X10_open_0 17 rfl
theorem dX10_open_28 : decode cX10_open 28 = .ok (.bastore, 1) := dd_get dm_X10_open_0 18 rfl
theorem dX10_open_29 : decode cX10_open 29 = .ok (.aload_n 0, 1) := dd_get dm_X10_open_0 19 rfl
theorem dX10_open_30 : decode cX10_open 30 = .ok (.iconst 0, 1) := dd_get dm_X10_open_0 20 rfl
theorem dX10_open_31 : decode cX10_open 31 = .ok (.putfield 117, 3) := dd_get dm_X10_open_0 21 rfl
theorem dX10_open_34 : decode cX10_open 34 = .ok (.aload_n 0, 1) := dd_get dm_X10_open_0 22 rfl
theorem dX10_open_35 : decode cX10_open 35 = .ok (.invokevirtual 99, 3) := dd_get dm_X10_open_0 23 rfl
theorem dX10_open_38 : decode cX10_open 38 = .ok (.iconst 1, 1) := dd_get dm_X10_open_0 24 rfl
theorem dX10_open_39 : decode cX10_open 39 = .ok (.ireturn, 1) := dd_get dm_X10_open_0 25 rfl
theorem dm_X10_about_0 : (([(0, .aload_n 0, 1), (1, .iload_n 1, 1), (2, .invokevirtual 120, 3), (5, .ifCond .ne 5, 3), (8, .iconst (-1), 1), (9, .ireturn, 1), (10, .iload_n 2, 1), (11, .ifCond .ne 12, 3), (14, .aload_n 0, 1), (15, .getfield 7, 3), (18, .iload_n 1, 1), (19, .iaload, 1), (20, .goto 54, 3), (23, .iload_n 2, 1), (24, .iconst 1, 1), (25, .if_icmp .ne 12, 3), (28, .aload_n 0, 1), (29, .getfield 13, 3), (32, .iload_n 1, 1), (33, .iaload, 1), (34, .goto 40, 3), (37, .iload_n 2, 1), (38, .iconst 2, 1), (39, .if_icmp .ne 12, 3), (42, .aload_n 0, 1), (43, .getfield 16, 3), (46, .iload_n 1, 1), (47, .iaload, 1), (48, .goto 26, 3), (51, .iload_n 2, 1), (52, .iconst 3, 1), (53, .if_icmp .ne 20, 3), (56, .aload_n 0, 1), (57, .getfield 19, 3), (60, .iload_n 1, 1), (61, .baload, 1), (62, .ifCond .eq 7, 3), (65, .iconst 1, 1), (66, .goto 8, 3), (69, .iconst 0, 1), (70, .goto 4, 3), (73, .iconst (-1), 1), (74, .ireturn, 1)] : List (Nat × Instr × Nat)).all fun q => decide (decode cX10_about q.1 = .ok (q.2.1, q.2.2))) = true := by decide +kernel
theorem dX10_about_0 : decode cX10_about 0 = .ok (.aload_n 0, 1) := dd_get dm_X10_about_0 0 rfl
theorem dX10_about_1 : decode cX10_about 1 = .ok (.iload_n 1, 1) := dd_get dm_X10_about_0 1 rfl
theorem dX10_about_2 : decode cX10_about 2 = .ok (.invokevirtual 120, 3) := dd_get dm_X10_about_0 2 rfl
theorem dX10_about_5 : decode cX10_about 5 = .ok (.ifCond .ne 5, 3) := dd_get dm_X10_about_0 3 rfl
theorem dX10_about_8 : decode cX10_about 8 = .ok (.iconst (-1), 1) := dd_get dm_X10_about_0 4 rfl
theorem dX10_about_9 : decode cX10_about 9 = .ok (.ireturn, 1) := dd_get dm_X10_about_0 5 rfl
theorem dX10_about_10 : decode cX10_about 10 = .ok (.iload_n 2, 1) := dd_get dm_X10_about_0 6 rfl
theorem dX10_about_11 : decode cX10_about 11 = .ok (.ifCond .ne 12, 3) := dd_get dm_X10_about_0 7 rfl
theorem dX10_about_14 : decode cX10_about 14 = .ok (.aload_n 0, 1) := dd_get dm_X10_about_0 8 rfl
theorem dX10_about_15 : decode cX10_about 15 = .ok (.getfield 7, 3) := dd_get dm_X10_about_0 9 rfl
theorem dX10_about_18 : decode cX10_about 18 = .ok (.iload_n 1, 1) := dd_get dm_X10_about_0 10 rfl
theorem dX10_about_19 : decode cX10_about 19 = .ok (.iaload, 1) := dd_get dm_X10_about_0 11 rfl
theorem dX10_about_20 : decode cX10_about 20 = .ok (.goto 54, 3) := dd_get dm_X10_about_0 12 rfl
theorem dX10_about_23 : decode cX10_about 23 = .ok (.iload_n 2, 1) := dd_get dm_X10_about_0 13 rfl
theorem dX10_about_24 : decode cX10_about 24 = .ok (.iconst 1, 1) := dd_get dm_X10_about_0 14 rfl
theorem dX10_about_25 : decode cX10_about 25 = .ok (.if_icmp .ne 12, 3) := dd_get dm_X10_about_0 15 rfl
theorem dX10_about_28 : decode cX10_about 28 = .ok (.aload_n 0, 1) := dd_get dm_X10_about_0 16 rfl
theorem dX10_about_29 : decode cX10_about 29 = .ok (.getfield 13, 3) := dd_get dm_X10_about_0 17 rfl
theorem dX10_about_32 : decode cX10_about 32 = .ok (.iload_n 1, 1) := dd_get dm_X10_about_0 18 rfl
theorem dX10_about_33 : decode cX10_about 33 = .ok (.iaload, 1) := dd_get dm_X10_about_0 19 rfl
theorem dX10_about_34 : decode cX10_about 34 = .ok (.goto 40, 3) := dd_get dm_X10_about_0 20 rfl
theorem dX10_about_37 : decode cX10_about 37 = .ok (.iload_n 2, 1) := dd_get dm_X10_about_0 21 rfl
theorem dX10_about_38 : decode cX10_about 38 = .ok (.iconst 2, 1) := dd_get dm_X10_about_0 22 rfl
theorem dX10_about_39 : decode cX10_about 39 = .ok (.if_icmp .ne 12, 3) := dd_get dm_X10_about_0 23 rfl
theorem dX10_about_42 : decode cX10_about 42 = .ok (.aload_n 0, 1) := dd_get dm_X10_about_0 24 rfl
theorem dX10_about_43 : decode cX10_about 43 = .ok (.getfield 16, 3) := dd_get dm_X10_about_0 25 rfl
theorem dX10_about_46 : decode cX10_about 46 = .ok (.iload_n 1, 1) := dd_get dm_X10_about_0 26 rfl
theorem dX10_about_47 : decode cX10_about 47 = .ok (.iaload, 1) := dd_get dm_X10_about_0 27 rfl
theorem dX10_about_48 : decode cX10_about 48 = .ok (.goto 26, 3) := dd_get dm_X10_about_0 28 rfl
theorem dX10_about_51 : decode cX10_about 51 = .ok (.iload_n 2, 1) := dd_get dm_X10_about_0 29 rfl
theorem dX10_about_52 : decode cX10_about 52 = .ok (.iconst 3, 1) := dd_get dm_X10_about_0 30 rfl
theorem dX10_about_53 : decode cX10_about 53 = .ok (.if_icmp .ne 20, 3) := dd_get dm_X10_about_0 31 rfl
theorem dX10_about_56 : decode cX10_about 56 = .ok (.aload_n 0, 1) := dd_get dm_X10_about_0 32 rfl
theorem dX10_about_57 : decode cX10_about 57 = .ok (.getfield 19, 3) := dd_get dm_X10_about_0 33 rfl
theorem dX10_about_60 : decode cX10_about 60 = .ok (.iload_n 1, 1) := dd_get dm_X10_about_0 34 rfl
theorem dX10_about_61 : decode cX10_about 61 = .ok (.baload, 1) := dd_get dm_X10_about_0 35 rfl
theorem dX10_about_62 : decode cX10_about 62 = .ok (.ifCond .eq 7, 3) := dd_get dm_X10_about_0 36 rfl
theorem dX10_about_65 : decode cX10_about 65 = .ok (.iconst 1, 1) := dd_get dm_X10_about_0 37 rfl
theorem dX10_about_66 : decode cX10_about 66 = .ok (.goto 8, 3) := dd_get dm_X10_about_0 38 rfl
theorem dX10_about_69 : decode cX10_about 69 = .ok (.iconst 0, 1) := dd_get dm_X10_about_0 39 rfl
theorem dX10_about_70 : decode cX10_about 70 = .ok (.goto 4, 3) := dd_get dm_X10_about_0 40 rfl
theorem dX10_about_73 : decode cX10_about 73 = .ok (.iconst (-1), 1) := dd_get dm_X10_about_0 41 rfl
theorem dX10_about_74 : decode cX10_about 74 = .ok (.ireturn, 1) := dd_get dm_X10_about_0 42 rfl
theorem dm_X10_isRow_0 : (([(0, .iload_n 0, 1), (1, .ifCond .lt 12, 3), (4, .iload_n 0, 1), (5, .iconst 4, 1), (6, .if_icmp .ge 7, 3), (9, .iconst 1, 1), (10, .goto 4, 3), (13, .iconst 0, 1), (14, .ireturn, 1)] : List (Nat × Instr × Nat)).all fun q => decide (decode cX10_isRow q.1 = .ok (q.2.1, q.2.2))) = true := by decide +kernel
theorem dX10_isRow_0 : decode cX10_isRow 0 = .ok (.iload_n 0, 1) := dd_get dm_X10_isRow_0 0 rfl
theorem dX10_isRow_1 : decode cX10_isRow 1 = .ok (.ifCond .lt 12, 3) := dd_get dm_X10_isRow_0 1 rfl
theorem dX10_isRow_4 : decode cX10_isRow 4 = .ok (.iload_n 0, 1) := dd_get dm_X10_isRow_0 2 rfl
theorem dX10_isRow_5 : decode cX10_isRow 5 = .ok (.iconst 4, 1) := dd_get dm_X10_isRow_0 3 rfl
theorem dX10_isRow_6 : decode cX10_isRow 6 = .ok (.if_icmp .ge 7, 3) := dd_get dm_X10_isRow_0 4 rfl
theorem dX10_isRow_9 : decode cX10_isRow 9 = .ok (.iconst 1, 1) := dd_get dm_X10_isRow_0 5 rfl
theorem dX10_isRow_10 : decode cX10_isRow 10 = .ok (.goto 4, 3) := dd_get dm_X10_isRow_0 6 rfl
theorem dX10_isRow_13 : decode cX10_isRow 13 = .ok (.iconst 0, 1) := dd_get dm_X10_isRow_0 7 rfl
theorem dX10_isRow_14 : decode cX10_isRow 14 = .ok (.ireturn, 1) := dd_get dm_X10_isRow_0 8 rfl
theorem dm_X10_row_0 : (([(0, .iload_n 1, 1), (1, .invokestatic 123, 3), (4, .ifCond .eq 12, 3), (7, .iload_n 2, 1), (8, .ifCond .lt 8, 3), (11, .iload_n 2, 1), (12, .iconst 2, 1), (13, .if_icmp .le 5, 3), (16, .iconst (-1), 1), (17, .ireturn, 1), (18, .iload_n 3, 1), (19, .ifCond .ge 6, 3), (22, .bipush (-6), 2), (24, .ireturn, 1), (25, .iload_n 3, 1), (26, .bipush 50, 2), (28, .if_icmp .le 5, 3), (31, .iconst (-1), 1), (32, .ireturn, 1), (33, .aload_n 0, 1), (34, .getfield 23, 3), (37, .iload_n 1, 1), (38, .iload_n 2, 1), (39, .iastore, 1), (40, .aload_n 0, 1), (41, .getfield 26, 3), (44, .iload_n 1, 1), (45, .iload_n 3, 1), (46, .iastore, 1), (47, .iconst 0, 1), (48, .istore 4, 2), (50, .iload 4, 2), (52, .iload_n 3, 1), (53, .if_icmp .ge 22, 3), (56, .aload_n 0, 1), (57, .getfield 29, 3), (60, .bipush 50, 2), (62, .iload_n 1, 1), (63, .imul, 1), (64, .iload 4, 2), (66, .iadd, 1), (67, .lconst 1, 1), (68, .lastore, 1), (69, .iinc 4 1, 3), (72, .goto (-22), 3), (75, .iconst 1, 1), (76, .ireturn, 1)] : List (Nat × Instr × Nat)).all fun q => decide (decode cX10_row q.1 = .ok (q.2.1, q.2.2))) = true := by decide +kernel
theorem dX10_row_0 : decode cX10_row 0 = .ok (.iload_n 1, 1) := dd_get dm_X10_row_0 0 rfl
theorem dX10_row_1 : decode cX10_row 1 = .ok (.invokestatic 123, 3) := dd_get dm_X10_row_0 1 rfl
theorem dX10_row_4 : decode cX10_row 4 = .ok (.ifCond .eq 12, 3) := dd_get dm_X10_row_0 2 rfl
theorem dX10_row_7 : decode cX10_row 7 = .ok (.iload_n 2, 1) := dd_get dm_X10_row_0 3 rfl
theorem dX10_row_8 : decode cX10_row 8 = .ok (.ifCond .lt 8, 3) := dd_get dm_X10_row_0 4 rfl
theorem dX10_row_11 : decode cX10_row 11 = .ok (.iload_n 2, 1) := dd_get dm_X10_row_0 5 rfl
theorem dX10_row_12 : decode cX10_row 12 = .ok (.iconst 2, 1) := dd_get dm_X10_row_0 6 rfl
theorem dX10_row_13 : decode cX10_row 13 = .ok (.if_icmp .le 5, 3) := dd_get dm_X10_row_0 7 rfl
theorem dX10_row_16 : decode cX10_row 16 = .ok (.iconst (-1), 1) := dd_get dm_X10_row_0 8 rfl
theorem dX10_row_17 : decode cX10_row 17 = .ok (.ireturn, 1) := dd_get dm_X10_row_0 9 rfl
theorem dX10_row_18 : decode cX10_row 18 = .ok (.iload_n 3, 1) := dd_get dm_X10_row_0 10 rfl
theorem dX10_row_19 : decode cX10_row 19 = .ok (.ifCond .ge 6, 3) := dd_get dm_X10_row_0 11 rfl
theorem dX10_row_22 : decode cX10_row 22 = .ok (.bipush (-6), 2) := dd_get dm_X10_row_0 12 rfl
theorem dX10_row_24 : decode cX10_row 24 = .ok (.ireturn, 1) := dd_get dm_X10_row_0 13 rfl
theorem dX10_row_25 : decode cX10_row 25 = .ok (.iload_n 3, 1) := dd_get dm_X10_row_0 14 rfl
theorem dX10_row_26 : decode cX10_row 26 = .ok (.bipush 50, 2) := dd_get dm_X10_row_0 15 rfl
theorem dX10_row_28 : decode cX10_row 28 = .ok (.if_icmp .le 5, 3) := dd_get dm_X10_row_0 16 rfl
theorem dX10_row_31 : decode cX10_row 31 = .ok (.iconst (-1), 1) := dd_get dm_X10_row_0 17 rfl
theorem dX10_row_32 : decode cX10_row 32 = .ok (.ireturn, 1) := dd_get dm_X10_row_0 18 rfl
theorem dX10_row_33 : decode cX10_row 33 = .ok (.aload_n 0, 1) := dd_get dm_X10_row_0 19 rfl
theorem dX10_row_34 : decode cX10_row 34 = .ok (.getfield 23, 3) := dd_get dm_X10_row_0 20 rfl
theorem dX10_row_37 : decode cX10_row 37 = .ok (.iload_n 1, 1) := dd_get dm_X10_row_0 21 rfl
theorem dX10_row_38 : decode cX10_row 38 = .ok (.iload_n 2, 1) := dd_get dm_X10_row_0 22 rfl
theorem dX10_row_39 : decode cX10_row 39 = .ok (.iastore, 1) := dd_get dm_X10_row_0 23 rfl
theorem dX10_row_40 : decode cX10_row 40 = .ok (.aload_n 0, 1) := dd_get dm_X10_row_0 24 rfl
theorem dX10_row_41 : decode cX10_row 41 = .ok (.getfield 26, 3) := dd_get dm_X10_row_0 25 rfl
theorem dX10_row_44 : decode cX10_row 44 = .ok (.iload_n 1, 1) := dd_get dm_X10_row_0 26 rfl
theorem dX10_row_45 : decode cX10_row 45 = .ok (.iload_n 3, 1) := dd_get dm_X10_row_0 27 rfl
theorem dX10_row_46 : decode cX10_row 46 = .ok (.iastore, 1) := dd_get dm_X10_row_0 28 rfl
theorem dX10_row_47 : decode cX10_row 47 = .ok (.iconst 0, 1) := dd_get dm_X10_row_0 29 rfl
theorem dX10_row_48 : decode cX10_row 48 = .ok (.istore 4, 2) := dd_get dm_X10_row_0 30 rfl
theorem dX10_row_50 : decode cX10_row 50 = .ok (.iload 4, 2) := dd_get dm_X10_row_0 31 rfl
theorem dX10_row_52 : decode cX10_row 52 = .ok (.iload_n 3, 1) := dd_get dm_X10_row_0 32 rfl
theorem dX10_row_53 : decode cX10_row 53 = .ok (.if_icmp .ge 22, 3) := dd_get dm_X10_row_0 33 rfl
theorem dX10_row_56 : decode cX10_row 56 = .ok (.aload_n 0, 1) := dd_get dm_X10_row_0 34 rfl
theorem dX10_row_57 : decode cX10_row 57 = .ok (.getfield 29, 3) := dd_get dm_X10_row_0 35 rfl
theorem dX10_row_60 : decode cX10_row 60 = .ok (.bipush 50, 2) := dd_get dm_X10_row_0 36 rfl
theorem dX10_row_62 : decode cX10_row 62 = .ok (.iload_n 1, 1) := dd_get dm_X10_row_0 37 rfl
theorem dX10_row_63 : decode cX10_row 63 = .ok (.imul, 1) := dd_get dm_X10_row_0 38 rfl
theorem dX10_row_64 : decode cX10_row 64 = .ok (.iload 4, 2) := dd_get dm_X10_row_0 39 rfl
theorem dX10_row_66 : decode cX10_row 66 = .ok (.iadd, 1) := dd_get dm_X10_row_0 40 rfl
theorem dX10_row_67 : decode cX10_row 67 = .ok (.lconst 1, 1) := dd_get dm_X10_row_0 41 rfl
theorem dX10_row_68 : decode cX10_row 68 = .ok (.lastore, 1) := dd_get dm_X10_row_0 42 rfl
theorem dX10_row_69 : decode cX10_row 69 = .ok (.iinc 4 1, 3) := dd_get dm_X10_row_0 43 rfl
theorem dX10_row_72 : decode cX10_row 72 = .ok (.goto (-22), 3) := dd_get dm_X10_row_0 44 rfl
theorem dX10_row_75 : decode cX10_row 75 = .ok (.iconst 1, 1) := dd_get dm_X10_row_0 45 rfl
theorem dX10_row_76 : decode cX10_row 76 = .ok (.ireturn, 1) := dd_get dm_X10_row_0 46 rfl
theorem dm_X10_cell_0 : (([(0, .iload_n 1, 1), (1, .invokestatic 123, 3), (4, .ifCond .ne 5, 3), (7, .iconst (-1), 1), (8, .ireturn, 1), (9, .aload_n 0, 1), (10, .getfield 26, 3), (13, .iload_n 1, 1), (14, .iaload, 1), (15, .ifCond .ge 6, 3), (18, .bipush (-3), 2), (20, .ireturn, 1), (21, .iload_n 2, 1), (22, .ifCond .lt 13, 3), (25, .iload_n 2, 1), (26, .aload_n 0, 1), (27, .getfield 26, 3), (30, .iload_n 1, 1), (31, .iaload, 1), (32, .if_icmp .lt 5, 3), (35, .iconst (-1), 1), (36, .ireturn, 1), (37, .aload_n 0, 1), (38, .getfield 29, 3), (41, .bipush 50, 2), (43, .iload_n 1, 1), (44, .imul, 1), (45, .iload_n 2, 1), (46, .iadd, 1), (47, .aload_n 0, 1), (48, .getfield 23, 3), (51, .iload_n 1, 1), (52, .iaload, 1), (53, .ifCond .ne 10, 3), (56, .lload_n 3, 1), (57, .l2i, 1), (58, .i2s, 1), (59, .i2l, 1), (60, .goto 20, 3), (63, .aload_n 0, 1), (64, .getfield 23, 3), (67, .iload_n 1, 1), (68, .iaload, 1), (69, .iconst 1, 1), (70, .if_icmp .ne 9, 3), (73, .lload_n 3, 1), (74, .l2i, 1), (75, .i2l, 1), (76, .goto 4, 3), (79, .lload_n 3, 1), (80, .lastore, 1), (81, .iconst 1, 1), (82, .ireturn, 1)] : List (Nat × Instr × Nat)).all fun q => decide (decode cX10_cell q.1 = .ok (q.2.1, q.2.2))) = true := by decide +kernel
theorem dX10_cell_0 : decode cX10_cell 0 = .ok (.iload_n 1, 1) := dd_get dm_X10_cell_0 0 rfl
theorem dX10_cell_1 : decode cX10_cell 1 = .ok (.invokestatic 123, 3) := dd_get dm_X10_cell_0 1 rfl
theorem dX10_cell_4 : decode cX10_cell 4 = .ok (.ifCond .ne 5, 3) := dd_get dm_X10_cell_0 2 rfl
theorem dX10_cell_7 : decode cX10_cell 7 = .ok (.iconst (-1), 1) := dd_get dm_X10_cell_0 3 rfl
theorem dX10_cell_8 : decode cX10_cell 8 = .ok (.ireturn, 1) := dd_get dm_X10_cell_0 4 rfl
theorem dX10_cell_9 : decode cX10_cell 9 = .ok (.aload_n 0, 1) := dd_get dm_X10_cell_0 5 rfl
theorem dX10_cell_10 : decode cX10_cell 10 = .ok (.getfield 26, 3) := dd_get dm_X10_cell_0 6 rfl
theorem dX10_cell_13 : decode cX10_cell 13 = .ok (.iload_n 1, 1) := dd_get dm_X10_cell_0 7 rfl
theorem dX10_cell_14 : decode cX10_cell 14 = .ok (.iaload, 1) := dd_get dm_X10_cell_0 8 rfl
theorem dX10_cell_15 : decode cX10_cell 15 = .ok (.ifCond .ge 6, 3) := dd_get dm_X10_cell_0 9 rfl
theorem dX10_cell_18 : decode cX10_cell 18 = .ok (.bipush (-3), 2) := dd_get dm_X10_cell_0 10 rfl
theorem dX10_cell_20 : decode cX10_cell 20 = .ok (.ireturn, 1) := dd_get dm_X10_cell_0 11 rfl
theorem dX10_cell_21 : decode cX10_cell 21 = .ok (.iload_n 2, 1) := dd_get dm_X10_cell_0 12 rfl
theorem dX10_cell_22 : decode cX10_cell 22 = .ok (.ifCond .lt 13, 3) := dd_get dm_X10_cell_0 13 rfl
theorem dX10_cell_25 : decode cX10_cell 25 = .ok (.iload_n 2, 1) := dd_get dm_X10_cell_0 14 rfl
theorem dX10_cell_26 : decode cX10_cell 26 = .ok (.aload_n 0, 1) := dd_get dm_X10_cell_0 15 rfl
theorem dX10_cell_27 : decode cX10_cell 27 = .ok (.getfield 26, 3) := dd_get dm_X10_cell_0 16 rfl
theorem dX10_cell_30 : decode cX10_cell 30 = .ok (.iload_n 1, 1) := dd_get dm_X10_cell_0 17 rfl
theorem dX10_cell_31 : decode cX10_cell 31 = .ok (.iaload, 1) := dd_get dm_X10_cell_0 18 rfl
theorem dX10_cell_32 : decode cX10_cell 32 = .ok (.if_icmp .lt 5, 3) := dd_get dm_X10_cell_0 19 rfl
theorem dX10_cell_35 : decode cX10_cell 35 = .ok (.iconst (-1), 1) := dd_get dm_X10_cell_0 20 rfl
theorem dX10_cell_36 : decode cX10_cell 36 = .ok (.ireturn, 1) := dd_get dm_X10_cell_0 21 rfl
theorem dX10_cell_37 : decode cX10_cell 37 = .ok (.aload_n 0, 1) := dd_get dm_X10_cell_0 22 rfl
theorem dX10_cell_38 : decode cX10_cell 38 = .ok (.getfield 29, 3) := dd_get dm_X10_cell_0 23 rfl
theorem dX10_cell_41 : decode cX10_cell 41 = .ok (.bipush 50, 2) := dd_get dm_X10_cell_0 24 rfl
theorem dX10_cell_43 : decode cX10_cell 43 = .ok (.iload_n 1, 1) := dd_get dm_X10_cell_0 25 rfl
theorem dX10_cell_44 : decode cX10_cell 44 = .ok (.imul, 1) := dd_get dm_X10_cell_0 26 rfl
theorem dX10_cell_45 : decode cX10_cell 45 = .ok (.iload_n 2, 1) := dd_get dm_X10_cell_0 27 rfl
theorem dX10_cell_46 : decode cX10_cell 46 = .ok (.iadd, 1) := dd_get dm_X10_cell_0 28 rfl
theorem dX10_cell_47 : decode cX10_cell 47 = .ok (.aload_n 0, 1) := dd_get dm_X10_cell_0 29 rfl
theorem dX10_cell_48 : decode cX10_cell 48 = .ok (.getfield 23, 3) := dd_get dm_X10_cell_0 30 rfl
theorem dX10_cell_51 : decode cX10_cell 51 = .ok (.iload_n 1, 1) := dd_get dm_X10_cell_0 31 rfl
theorem dX10_cell_52 : decode cX10_cell 52 = .ok (.iaload, 1) := dd_get dm_X10_cell_0 32 rfl
theorem dX10_cell_53 : decode cX10_cell 53 = .ok (.ifCond .ne 10, 3) := dd_get dm_X10_cell_0 33 rfl
theorem dX10_cell_56 : decode cX10_cell 56 = .ok (.lload_n 3, 1) := dd_get dm_X10_cell_0 34 rfl
theorem dX10_cell_57 : decode cX10_cell 57 = .ok (.l2i, 1) := dd_get dm_X10_cell_0 35 rfl
theorem dX10_cell_58 : decode cX10_cell 58 = .ok (.i2s, 1) := dd_get dm_X10_cell_0 36 rfl
theorem dX10_cell_59 : decode cX10_cell 59 = .ok (.i2l, 1) := dd_get dm_X10_cell_0 37 rfl
theorem dX10_cell_60 : decode cX10_cell 60 = .ok (.goto 20, 3) := dd_get dm_X10_cell_0 38 rfl
theorem dX10_cell_63 : decode cX10_cell 63 = .ok (.aload_n 0, 1) := dd_get dm_X10_cell_0 39 rfl
theorem dX10_cell_64 : decode cX10_cell 64 = .ok (.getfield 23, 3) := dd_get dm_X10_cell_0 40 rfl
theorem dX10_cell_67 : decode cX10_cell 67 = .ok (.iload_n 1, 1) := dd_get dm_X10_cell_0 41 rfl
theorem dX10_cell_68 : decode cX10_cell 68 = .ok (.iaload, 1) := dd_get dm_X10_cell_0 42 rfl
theorem dX10_cell_69 : decode cX10_cell 69 = .ok (.iconst 1, 1) := dd_get dm_X10_cell_0 43 rfl
theorem dX10_cell_70 : decode cX10_cell 70 = .ok (.if_icmp .ne 9, 3) := dd_get dm_X10_cell_0 44 rfl
theorem dX10_cell_73 : decode cX10_cell 73 = .ok (.lload_n 3, 1) := dd_get dm_X10_cell_0 45 rfl
theorem dX10_cell_74 : decode cX10_cell 74 = .ok (.l2i, 1) := dd_get dm_X10_cell_0 46 rfl
theorem dX10_cell_75 : decode cX10_cell 75 = .ok (.i2l, 1) := dd_get dm_X10_cell_0 47 rfl
theorem dX10_cell_76 : decode cX10_cell 76 = .ok (.goto 4, 3) := dd_get dm_X10_cell_0 48 rfl
theorem dX10_cell_79 : decode cX10_cell 79 = .ok (.lload_n 3, 1) := dd_get dm_X10_cell_0 49 rfl
theorem dX10_cell_80 : decode cX10_cell 80 = .ok (.lastore, 1) := dd_get dm_X10_cell_0 50 rfl
theorem dX10_cell_81 : decode cX10_cell 81 = .ok (.iconst 1, 1) := dd_get dm_X10_cell_0 51 rfl
theorem dX10_cell_82 : decode cX10_cell 82 = .ok (.ireturn, 1) := dd_get dm_X10_cell_0 52 rfl
theorem dm_X10_told_0 : (([(0, .iload_n 1, 1), (1, .invokestatic 123, 3), (4, .ifCond .eq 17, 3), (7, .iload_n 2, 1), (8, .ifCond .lt 13, 3), (11, .iload_n 2, 1), (12, .aload_n 0, 1), (13, .getfield 26, 3), (16, .iload_n 1, 1), (17, .iaload, 1), (18, .if_icmp .lt 9, 3), (21, .ldc2_w 126, 3), (24, .goto 14, 3), (27, .aload_n 0, 1), (28, .getfield 29, 3), (31, .bipush 50, 2), (33, .iload_n 1, 1), (34, .imul, 1), (35, .iload_n 2, 1), (36, .iadd, 1), (37, .laload, 1), (38, .lreturn, 1)] : List (Nat × Instr × Nat)).all fun q => decide (decode cX10_told q.1 = .ok (q.2.1, q.2.2))) = true := by decide +kernel
theorem dX10_told_0 : decode cX10_told 0 = .ok (.iload_n 1, 1) := dd_get dm_X10_told_0 0 rfl
theorem dX10_told_1 : decode cX10_told 1 = .ok (.invokestatic 123, 3) := dd_get dm_X10_told_0 1 rfl
theorem dX10_told_4 : decode cX10_told 4 = .ok (.ifCond .eq 17, 3) := dd_get dm_X10_told_0 2 rfl
theorem dX10_told_7 : decode cX10_told 7 = .ok (.iload_n 2, 1) := dd_get dm_X10_told_0 3 rfl
theorem dX10_told_8 : decode cX10_told 8 = .ok (.ifCond .lt 13, 3) := dd_get dm_X10_told_0 4 rfl
theorem dX10_told_11 : decode cX10_told 11 = .ok (.iload_n 2, 1) := dd_get dm_X10_told_0 5 rfl
theorem dX10_told_12 : decode cX10_told 12 = .ok (.aload_n 0, 1) := dd_get dm_X10_told_0 6 rfl
theorem dX10_told_13 : decode cX10_told 13 = .ok (.getfield 26, 3) := dd_get dm_X10_told_0 7 rfl
theorem dX10_told_16 : decode cX10_told 16 = .ok (.iload_n 1, 1) := dd_get dm_X10_told_0 8 rfl
theorem dX10_told_17 : decode cX10_told 17 = .ok (.iaload, 1) := dd_get dm_X10_told_0 9 rfl
theorem dX10_told_18 : decode cX10_told 18 = .ok (.if_icmp .lt 9, 3) := dd_get dm_X10_told_0 10 rfl
theorem dX10_told_21 : decode cX10_told 21 = .ok (.ldc2_w 126, 3) := dd_get dm_X10_told_0 11 rfl
theorem dX10_told_24 : decode cX10_told 24 = .ok (.goto 14, 3) := dd_get dm_X10_told_0 12 rfl
theorem dX10_told_27 : decode cX10_told 27 = .ok (.aload_n 0, 1) := dd_get dm_X10_told_0 13 rfl
theorem dX10_told_28 : decode cX10_told 28 = .ok (.getfield 29, 3) := dd_get dm_X10_told_0 14 rfl
theorem dX10_told_31 : decode cX10_told 31 = .ok (.bipush 50, 2) := dd_get dm_X10_told_0 15 rfl
theorem dX10_told_33 : decode cX10_told 33 = .ok (.iload_n 1, 1) := dd_get dm_X10_told_0 16 rfl
theorem dX10_told_34 : decode cX10_told 34 = .ok (.imul, 1) := dd_get dm_X10_told_0 17 rfl
theorem dX10_told_35 : decode cX10_told 35 = .ok (.iload_n 2, 1) := dd_get dm_X10_told_0 18 rfl
theorem dX10_told_36 : decode cX10_told 36 = .ok (.iadd, 1) := dd_get dm_X10_told_0 19 rfl
theorem dX10_told_37 : decode cX10_told 37 = .ok (.laload, 1) := dd_get dm_X10_told_0 20 rfl
theorem dX10_told_38 : decode cX10_told 38 = .ok (.lreturn, 1) := dd_get dm_X10_told_0 21 rfl
theorem dm_X10_lose_0 : (([(0, .iload_n 1, 1), (1, .invokestatic 123, 3), (4, .ifCond .ne 5, 3), (7, .iconst (-1), 1), (8, .ireturn, 1), (9, .aload_n 0, 1), (10, .getfield 26, 3), (13, .iload_n 1, 1), (14, .iaload, 1), (15, .ifCond .ge 6, 3), (18, .bipush (-3), 2), (20, .ireturn, 1), (21, .aload_n 0, 1), (22, .getfield 26, 3), (25, .iload_n 1, 1), (26, .iconst (-1), 1), (27, .iastore, 1), (28, .iconst 1, 1), (29, .ireturn, 1)] : List (Nat × Instr × Nat)).all fun q => decide (decode cX10_lose q.1 = .ok (q.2.1, q.2.2))) = true := by decide +kernel
theorem dX10_lose_0 : decode cX10_lose 0 = .ok (.iload_n 1, 1) := dd_get dm_X10_lose_0 0 rfl
theorem dX10_lose_1 : decode cX10_lose 1 = .ok (.invokestatic 123, 3) := dd_get dm_X10_lose_0 1 rfl
theorem dX10_lose_4 : decode cX10_lose 4 = .ok (.ifCond .ne 5, 3) := dd_get dm_X10_lose_0 2 rfl
theorem dX10_lose_7 : decode cX10_lose 7 = .ok (.iconst (-1), 1) := dd_get dm_X10_lose_0 3 rfl
theorem dX10_lose_8 : decode cX10_lose 8 = .ok (.ireturn, 1) := dd_get dm_X10_lose_0 4 rfl
theorem dX10_lose_9 : decode cX10_lose 9 = .ok (.aload_n 0, 1) := dd_get dm_X10_lose_0 5 rfl
theorem dX10_lose_10 : decode cX10_lose 10 = .ok (.getfield 26, 3) := dd_get dm_X10_lose_0 6 rfl
theorem dX10_lose_13 : decode cX10_lose 13 = .ok (.iload_n 1, 1) := dd_get dm_X10_lose_0 7 rfl
theorem dX10_lose_14 : decode cX10_lose 14 = .ok (.iaload, 1) := dd_get dm_X10_lose_0 8 rfl
theorem dX10_lose_15 : decode cX10_lose 15 = .ok (.ifCond .ge 6, 3) := dd_get dm_X10_lose_0 9 rfl
theorem dX10_lose_18 : decode cX10_lose 18 = .ok (.bipush (-3), 2) := dd_get dm_X10_lose_0 10 rfl
theorem dX10_lose_20 : decode cX10_lose 20 = .ok (.ireturn, 1) := dd_get dm_X10_lose_0 11 rfl
theorem dX10_lose_21 : decode cX10_lose 21 = .ok (.aload_n 0, 1) := dd_get dm_X10_lose_0 12 rfl
theorem dX10_lose_22 : decode cX10_lose 22 = .ok (.getfield 26, 3) := dd_get dm_X10_lose_0 13 rfl
theorem dX10_lose_25 : decode cX10_lose 25 = .ok (.iload_n 1, 1) := dd_get dm_X10_lose_0 14 rfl
theorem dX10_lose_26 : decode cX10_lose 26 = .ok (.iconst (-1), 1) := dd_get dm_X10_lose_0 15 rfl
theorem dX10_lose_27 : decode cX10_lose 27 = .ok (.iastore, 1) := dd_get dm_X10_lose_0 16 rfl
theorem dX10_lose_28 : decode cX10_lose 28 = .ok (.iconst 1, 1) := dd_get dm_X10_lose_0 17 rfl
theorem dX10_lose_29 : decode cX10_lose 29 = .ok (.ireturn, 1) := dd_get dm_X10_lose_0 18 rfl
theorem dm_X10_lay_0 : (([(0, .iload_n 1, 1), (1, .invokestatic 123, 3), (4, .ifCond .ne 5, 3), (7, .iconst (-1), 1), (8, .ireturn, 1), (9, .aload_n 0, 1), (10, .getfield 26, 3), (13, .iload_n 1, 1), (14, .iaload, 1), (15, .ifCond .ge 6, 3), (18, .bipush (-3), 2), (20, .ireturn, 1), (21, .aload_n 0, 1), (22, .getfield 23, 3), (25, .iload_n 1, 1), (26, .iaload, 1), (27, .iconst 1, 1), (28, .if_icmp .eq 6, 3), (31, .bipush (-5), 2), (33, .ireturn, 1), (34, .iload_n 3, 1), (35, .ifCond .lt 53, 3), (38, .iload_n 2, 1), (39, .ifCond .lt 49, 3), (42, .iload_n 3, 1), (43, .aload_n 0, 1), (44, .getfield 26, 3), (47, .iload_n 1, 1), (48, .iaload, 1), (49, .if_icmp .gt 39, 3), (52, .iload_n 2, 1), (53, .aload_n 0, 1), (54, .getfield 26, 3), (57, .iload_n 1, 1), (58, .iaload, 1), (59, .iload_n 3, 1), (60, .isub, 1), (61, .if_icmp .gt 27, 3), (64, .iload 4, 2), (66, .ifCond .lt 22, 3), (69, .iload_n 3, 1), (70, .aload_n 0, 1), (71, .getfield 103, 3), (74, .if_icmp .gt 14, 3), (77, .iload 4, 2), (79, .aload_n 0, 1), (80, .getfield 103, 3), (83, .iload_n 3, 1), (84, .isub, 1), (85, .if_icmp .le 5, 3), (88, .iconst (-1), 1), (89, .ireturn, 1), (90, .iconst 0, 1), (91, .istore 5, 2), (93, .iload 5, 2), (95, .iload_n 3, 1), (96, .if_icmp .ge 68, 3), (99, .aload_n 0, 1), (100, .getfield 29, 3), (103, .bipush 50, 2)] : List (Nat × Instr × Nat)).all fun q => decide (decode cX10_lay q.1 = .ok (q.2.1, q.2.2))) = true := by decide +kernel
theorem dX10_lay_0 : decode cX10_lay 0 = .ok (.iload_n 1, 1) := dd_get dm_X10_lay_0 0 rfl
theorem dX10_lay_1 : decode cX10_lay 1 = .ok (.invokestatic 123, 3) := dd_get dm_X10_lay_0 1 rfl
theorem dX10_lay_4 : decode cX10_lay 4 = .ok (.ifCond .ne 5, 3) := dd_get dm_X10_lay_0 2 rfl
theorem dX10_lay_7 : decode cX10_lay 7 = .ok (.iconst (-1), 1) := dd_get dm_X10_lay_0 3 rfl
theorem dX10_lay_8 : decode cX10_lay 8 = .ok (.ireturn, 1) := dd_get dm_X10_lay_0 4 rfl
theorem dX10_lay_9 : decode cX10_lay 9 = .ok (.aload_n 0, 1) := dd_get dm_X10_lay_0 5 rfl
theorem dX10_lay_10 : decode cX10_lay 10 = .ok (.getfield 26, 3) := dd_get dm_X10_lay_0 6 rfl
theorem dX10_lay_13 : decode cX10_lay 13 = .ok (.iload_n 1, 1) := dd_get dm_X10_lay_0 7 rfl
theorem dX10_lay_14 : decode cX10_lay 14 = .ok (.iaload, 1) := dd_get dm_X10_lay_0 8 rfl
theorem dX10_lay_15 : decode cX10_lay 15 = .ok (.ifCond .ge 6, 3) := dd_get dm_X10_lay_0 9 rfl
theorem dX10_lay_18 : decode cX10_lay 18 = .ok (.bipush (-3), 2) := dd_get dm_X10_lay_0 10 rfl
theorem dX10_lay_20 : decode cX10_lay 20 = .ok (.ireturn, 1) := dd_get dm_X10_lay_0 11 rfl
theorem dX10_lay_21 : decode cX10_lay 21 = .ok (.aload_n 0, 1) := dd_get dm_X10_lay_0 12 rfl
theorem dX10_lay_22 : decode cX10_lay 22 = .ok (.getfield 23, 3) := dd_get dm_X10_lay_0 13 rfl
theorem dX10_lay_25 : decode cX10_lay 25 = .ok (.iload_n 1, 1) := dd_get dm_X10_lay_0 14 rfl
theorem dX10_lay_26 : decode cX10_lay 26 = .ok (.iaload, 1) := dd_get dm_X10_lay_0 15 rfl
theorem dX10_lay_27 : decode cX10_lay 27 = .ok (.iconst 1, 1) := dd_get dm_X10_lay_0 16 rfl
theorem dX10_lay_28 : decode cX10_lay 28 = .ok (.if_icmp .eq 6, 3) := dd_get dm_X10_lay_0 17 rfl
theorem dX10_lay_31 : decode cX10_lay 31 = .ok (.bipush (-5), 2) := dd_get dm_X10_lay_0 18 rfl
theorem dX10_lay_33 : decode cX10_lay 33 = .ok (.ireturn, 1) := dd_get dm_X10_lay_0 19 rfl
theorem dX10_lay_34 : decode cX10_lay 34 = .ok (.iload_n 3, 1) := dd_get dm_X10_lay_0 20 rfl
theorem dX10_lay_35 : decode cX10_lay 35 = .ok (.ifCond .lt 53, 3) := dd_get dm_X10_lay_0 21 rfl
theorem dX10_lay_38 : decode cX10_lay 38 = .ok (.iload_n 2, 1) := dd_get dm_X10_lay_0 22 rfl
theorem dX10_lay_39 : decode cX10_lay 39 = .ok (.ifCond .lt 49, 3) := dd_get dm_X10_lay_0 23 rfl
theorem dX10_lay_42 : decode cX10_lay 42 = .ok (.iload_n 3, 1) := dd_get dm_X10_lay_0 24 rfl
theorem dX10_lay_43 : decode cX10_lay 43 = .ok (.aload_n 0, 1) := dd_get dm_X10_lay_0 25 rfl
theorem dX10_lay_44 : decode cX10_lay 44 = .ok (.getfield 26, 3) := dd_get dm_X10_lay_0 26 rfl
theorem dX10_lay_47 : decode cX10_lay 47 = .ok (.iload_n 1, 1) := dd_get dm_X10_lay_0 27 rfl
theorem dX10_lay_48 : decode cX10_lay 48 = .ok (.iaload, 1) := dd_get dm_X10_lay_0 28 rfl
theorem dX10_lay_49 : decode cX10_lay 49 = .ok (.if_icmp .gt 39, 3) := dd_get dm_X10_lay_0 29 rfl
theorem dX10_lay_52 : decode cX10_lay 52 = .ok (.iload_n 2, 1) := dd_get dm_X10_lay_0 30 rfl
theorem dX10_lay_53 : decode cX10_lay 53 = .ok (.aload_n 0, 1) := dd_get dm_X10_lay_0 31 rfl
theorem dX10_lay_54 : decode cX10_lay 54 = .ok (.getfield 26, 3) := dd_get dm_X10_lay_0 32 rfl
theorem dX10_lay_57 : decode cX10_lay 57 = .ok (.iload_n 1, 1) := dd_get dm_X10_lay_0 33 rfl
theorem dX10_lay_58 : decode cX10_lay 58 = .ok (.iaload, 1) := dd_get dm_X10_lay_0 34 rfl
theorem dX10_lay_59 : decode cX10_lay 59 = .ok (.iload_n 3, 1) := dd_get dm_X10_lay_0 35 rfl
theorem dX10_lay_60 : decode cX10_lay 60 = .ok (.isub, 1) := dd_get dm_X10_lay_0 36 rfl
theorem dX10_lay_61 : decode cX10_lay 61 = .ok (.if_icmp .gt 27, 3) := dd_get dm_X10_lay_0 37 rfl
theorem dX10_lay_64 : decode cX10_lay 64 = .ok (.iload 4, 2) := dd_get dm_X10_lay_0 38 rfl
theorem dX10_lay_66 : decode cX10_lay 66 = .ok (.ifCond .lt 22, 3) := dd_get dm_X10_lay_0 39 rfl
theorem dX10_lay_69 : decode cX10_lay 69 = .ok (.iload_n 3, 1) := dd_get dm_X10_lay_0 40 rfl
theorem dX10_lay_70 : decode cX10_lay 70 = .ok (.aload_n 0, 1) := dd_get dm_X10_lay_0 41 rfl
theorem dX10_lay_71 : decode cX10_lay 71 = .ok (.getfield 103, 3) := dd_get dm_X10_lay_0 42 rfl
theorem dX10_lay_74 : decode cX10_lay 74 = .ok (.if_icmp .gt 14, 3) := dd_get dm_X10_lay_0 43 rfl
theorem dX10_lay_77 : decode cX10_lay 77 = .ok (.iload 4, 2) := dd_get dm_X10_lay_0 44 rfl
theorem dX10_lay_79 : decode cX10_lay 79 = .ok (.aload_n 0, 1) := dd_get dm_X10_lay_0 45 rfl
theorem dX10_lay_80 : decode cX10_lay 80 = .ok (.getfield 103, 3) := dd_get dm_X10_lay_0 46 rfl
theorem dX10_lay_83 : decode cX10_lay 83 = .ok (.iload_n 3, 1) := dd_get dm_X10_lay_0 47 rfl
theorem dX10_lay_84 : decode cX10_lay 84 = .ok (.isub, 1) := dd_get dm_X10_lay_0 48 rfl
theorem dX10_lay_85 : decode cX10_lay 85 = .ok (.if_icmp .le 5, 3) := dd_get dm_X10_lay_0 49 rfl
theorem dX10_lay_88 : decode cX10_lay 88 = .ok (.iconst (-1), 1) := dd_get dm_X10_lay_0 50 rfl
theorem dX10_lay_89 : decode cX10_lay 89 = .ok (.ireturn, 1) := dd_get dm_X10_lay_0 51 rfl
theorem dX10_lay_90 : decode cX10_lay 90 = .ok (.iconst 0, 1) := dd_get dm_X10_lay_0 52 rfl
theorem dX10_lay_91 : decode cX10_lay 91 = .ok (.istore 5, 2) := dd_get dm_X10_lay_0 53 rfl
theorem dX10_lay_93 : decode cX10_lay 93 = .ok (.iload 5, 2) := dd_get dm_X10_lay_0 54 rfl
theorem dX10_lay_95 : decode cX10_lay 95 = .ok (.iload_n 3, 1) := dd_get dm_X10_lay_0 55 rfl
theorem dX10_lay_96 : decode cX10_lay 96 = .ok (.if_icmp .ge 68, 3) := dd_get dm_X10_lay_0 56 rfl
theorem dX10_lay_99 : decode cX10_lay 99 = .ok (.aload_n 0, 1) := dd_get dm_X10_lay_0 57 rfl
theorem dX10_lay_100 : decode cX10_lay 100 = .ok (.getfield 29, 3) := dd_get dm_X10_lay_0 58 rfl
theorem dX10_lay_103 : decode cX10_lay 103 = .ok (.bipush 50, 2) := dd_get dm_X10_lay_0 59 rfl
theorem dm_X10_lay_1 : (([(105, .iload_n 1, 1), (106, .imul, 1), (107, .iload_n 2, 1), (108, .iadd, 1), (109, .iload 5, 2), (111, .iadd, 1), (112, .laload, 1), (113, .lstore 6, 2), (115, .lload 6, 2), (117, .lconst 1, 1), (118, .lcmp, 1), (119, .ifCond .lt 28, 3), (122, .lload 6, 2), (124, .ldc2_w 128, 3), (127, .lcmp, 1), (128, .ifCond .gt 19, 3), (131, .aload_n 0, 1), (132, .getfield 16, 3), (135, .iload 4, 2), (137, .iload 5, 2), (139, .iadd, 1), (140, .lload 6, 2), (142, .l2i, 1), (143, .iastore, 1), (144, .goto 14, 3), (147, .aload_n 0, 1), (148, .getfield 19, 3), (151, .iload 4, 2), (153, .iload 5, 2), (155, .iadd, 1), (156, .iconst 0, 1), (157, .bastore, 1), (158, .iinc 5 1, 3), (161, .goto (-68), 3), (164, .aload_n 0, 1), (165, .iconst 0, 1), (166, .putfield 117, 3), (169, .aload_n 0, 1), (170, .invokevirtual 99, 3), (173, .iconst 1, 1), (174, .ireturn, 1)] : List (Nat × Instr × Nat)).all fun q => decide (decode cX10_lay q.1 = .ok (q.2.1, q.2.2))) = true := by decide +kernel
theorem dX10_lay_105 : decode cX10_lay 105 = .ok (.iload_n 1, 1) := dd_get dm_X10_lay_1 0 rfl
theorem dX10_lay_106 : decode cX10_lay 106 = .ok (.imul, 1) := dd_get dm_X10_lay_1 1 rfl
theorem dX10_lay_107 : decode cX10_lay 107 = .ok (.iload_n 2, 1) := dd_get dm_X10_lay_1 2 rfl
theorem dX10_lay_108 : decode cX10_lay 108 = .ok (.iadd, 1) := dd_get dm_X10_lay_1 3 rfl
theorem dX10_lay_109 : decode cX10_lay 109 = .ok (.iload 5, 2) := dd_get dm_X10_lay_1 4 rfl
theorem dX10_lay_111 : decode cX10_lay 111 = .ok (.iadd, 1) := dd_get dm_X10_lay_1 5 rfl
theorem dX10_lay_112 : decode cX10_lay 112 = .ok (.laload, 1) := dd_get dm_X10_lay_1 6 rfl
theorem dX10_lay_113 : decode cX10_lay 113 = .ok (.lstore 6, 2) := dd_get dm_X10_lay_1 7 rfl
theorem dX10_lay_115 : decode cX10_lay 115 = .ok (.lload 6, 2) := dd_get dm_X10_lay_1 8 rfl
theorem dX10_lay_117 : decode cX10_lay 117 = .ok (.lconst 1, 1) := dd_get dm_X10_lay_1 9 rfl
theorem dX10_lay_118 : decode cX10_lay 118 = .ok (.lcmp, 1) := dd_get dm_X10_lay_1 10 rfl
theorem dX10_lay_119 : decode cX10_lay 119 = .ok (.ifCond .lt 28, 3) := dd_get dm_X10_lay_1 11 rfl
theorem dX10_lay_122 : decode cX10_lay 122 = .ok (.lload 6, 2) := dd_get dm_X10_lay_1 12 rfl
theorem dX10_lay_124 : decode cX10_lay 124 = .ok (.ldc2_w 128, 3) := dd_get dm_X10_lay_1 13 rfl
theorem dX10_lay_127 : decode cX10_lay 127 = .ok (.lcmp, 1) := dd_get dm_X10_lay_1 14 rfl
theorem dX10_lay_128 : decode cX10_lay 128 = .ok (.ifCond .gt 19, 3) := dd_get dm_X10_lay_1 15 rfl
theorem dX10_lay_131 : decode cX10_lay 131 = .ok (.aload_n 0, 1) := dd_get dm_X10_lay_1 16 rfl
theorem dX10_lay_132 : decode cX10_lay 132 = .ok (.getfield 16, 3) := dd_get dm_X10_lay_1 17 rfl
theorem dX10_lay_135 : decode cX10_lay 135 = .ok (.iload 4, 2) := dd_get dm_X10_lay_1 18 rfl
theorem dX10_lay_137 : decode cX10_lay 137 = .ok (.iload 5, 2) := dd_get dm_X10_lay_1 19 rfl
theorem dX10_lay_139 : decode cX10_lay 139 = .ok (.iadd, 1) := dd_get dm_X10_lay_1 20 rfl
theorem dX10_lay_140 : decode cX10_lay 140 = .ok (.lload 6, 2) := dd_get dm_X10_lay_1 21 rfl
theorem dX10_lay_142 : decode cX10_lay 142 = .ok (.l2i, 1) := dd_get dm_X10_lay_1 22 rfl
theorem dX10_lay_143 : decode cX10_lay 143 = .ok (.iastore, 1) := dd_get dm_X10_lay_1 23 rfl
theorem dX10_lay_144 : decode cX10_lay 144 = .ok (.goto 14, 3) := dd_get dm_X10_lay_1 24 rfl
theorem dX10_lay_147 : decode cX10_lay 147 = .ok (.aload_n 0, 1) := dd_get dm_X10_lay_1 25 rfl
theorem dX10_lay_148 : decode cX10_lay 148 = .ok (.getfield 19, 3) := dd_get dm_X10_lay_1 26 rfl
theorem dX10_lay_151 : decode cX10_lay 151 = .ok (.iload 4, 2) := dd_get dm_X10_lay_1 27 rfl
theorem dX10_lay_153 : decode cX10_lay 153 = .ok (.iload 5, 2) := dd_get dm_X10_lay_1 28 rfl
theorem dX10_lay_155 : decode cX10_lay 155 = .ok (.iadd, 1) := dd_get dm_X10_lay_1 29 rfl
theorem dX10_lay_156 : decode cX10_lay 156 = .ok (.iconst 0, 1) := dd_get dm_X10_lay_1 30 rfl
theorem dX10_lay_157 : decode cX10_lay 157 = .ok (.bastore, 1) := dd_get dm_X10_lay_1 31 rfl
theorem dX10_lay_158 : decode cX10_lay 158 = .ok (.iinc 5 1, 3) := dd_get dm_X10_lay_1 32 rfl
theorem dX10_lay_161 : decode cX10_lay 161 = .ok (.goto (-68), 3) := dd_get dm_X10_lay_1 33 rfl
theorem dX10_lay_164 : decode cX10_lay 164 = .ok (.aload_n 0, 1) := dd_get dm_X10_lay_1 34 rfl
theorem dX10_lay_165 : decode cX10_lay 165 = .ok (.iconst 0, 1) := dd_get dm_X10_lay_1 35 rfl
theorem dX10_lay_166 : decode cX10_lay 166 = .ok (.putfield 117, 3) := dd_get dm_X10_lay_1 36 rfl
theorem dX10_lay_169 : decode cX10_lay 169 = .ok (.aload_n 0, 1) := dd_get dm_X10_lay_1 37 rfl
theorem dX10_lay_170 : decode cX10_lay 170 = .ok (.invokevirtual 99, 3) := dd_get dm_X10_lay_1 38 rfl
theorem dX10_lay_173 : decode cX10_lay 173 = .ok (.iconst 1, 1) := dd_get dm_X10_lay_1 39 rfl
theorem dX10_lay_174 : decode cX10_lay 174 = .ok (.ireturn, 1) := dd_get dm_X10_lay_1 40 rfl
theorem dm_X10_way_0 : (([(0, .iload_n 1, 1), (1, .invokestatic 114, 3), (4, .ifCond .eq 10, 3), (7, .iload_n 2, 1), (8, .invokestatic 114, 3), (11, .ifCond .ne 5, 3), (14, .iconst (-1), 1), (15, .ireturn, 1), (16, .aload_n 0, 1), (17, .getfield 33, 3), (20, .bipush 40, 2), (22, .iload_n 1, 1), (23, .imul, 1), (24, .iload_n 2, 1), (25, .iadd, 1), (26, .iaload, 1), (27, .istore_n 3, 1), (28, .iload_n 3, 1), (29, .ldc 102, 2), (31, .if_icmp .ne 8, 3), (34, .bipush (-10), 2), (36, .goto 4, 3), (39, .iload_n 3, 1), (40, .ireturn, 1)] : List (Nat × Instr × Nat)).all fun q => decide (decode cX10_way q.1 = .ok (q.2.1, q.2.2))) = true := by decide +kernel
theorem dX10_way_0 : decode cX10_way 0 = .ok (.iload_n 1, 1) := dd_get dm_X10_way_0 0 rfl
theorem dX10_way_1 : decode cX10_way 1 = .ok (.invokestatic 114, 3) := dd_get dm_X10_way_0 1 rfl
theorem dX10_way_4 : decode cX10_way 4 = .ok (.ifCond .eq 10, 3) := dd_get dm_X10_way_0 2 rfl
theorem dX10_way_7 : decode cX10_way 7 = .ok (.iload_n 2, 1) := dd_get dm_X10_way_0 3 rfl
theorem dX10_way_8 : decode cX10_way 8 = .ok (.invokestatic 114, 3) := dd_get dm_X10_way_0 4 rfl
theorem dX10_way_11 : decode cX10_way 11 = .ok (.ifCond .ne 5, 3) := dd_get dm_X10_way_0 5 rfl
theorem dX10_way_14 : decode cX10_way 14 = .ok (.iconst (-1), 1) := dd_get dm_X10_way_0 6 rfl
theorem dX10_way_15 : decode cX10_way 15 = .ok (.ireturn, 1) := dd_get dm_X10_way_0 7 rfl
theorem dX10_way_16 : decode cX10_way 16 = .ok (.aload_n 0, 1) := dd_get dm_X10_way_0 8 rfl
theorem dX10_way_17 : decode cX10_way 17 = .ok (.getfield 33, 3) := dd_get dm_X10_way_0 9 rfl
theorem dX10_way_20 : decode cX10_way 20 = .ok (.bipush 40, 2) := dd_get dm_X10_way_0 10 rfl
theorem dX10_way_22 : decode cX10_way 22 = .ok (.iload_n 1, 1) := dd_get dm_X10_way_0 11 rfl
theorem dX10_way_23 : decode cX10_way 23 = .ok (.imul, 1) := dd_get dm_X10_way_0 12 rfl
theorem dX10_way_24 : decode cX10_way 24 = .ok (.iload_n 2, 1) := dd_get dm_X10_way_0 13 rfl
theorem dX10_way_25 : decode cX10_way 25 = .ok (.iadd, 1) := dd_get dm_X10_way_0 14 rfl
theorem dX10_way_26 : decode cX10_way 26 = .ok (.iaload, 1) := dd_get dm_X10_way_0 15 rfl
theorem dX10_way_27 : decode cX10_way 27 = .ok (.istore_n 3, 1) := dd_get dm_X10_way_0 16 rfl
theorem dX10_way_28 : decode cX10_way 28 = .ok (.iload_n 3, 1) := dd_get dm_X10_way_0 17 rfl
theorem dX10_way_29 : decode cX10_way 29 = .ok (.ldc 102, 2) := dd_get dm_X10_way_0 18 rfl
theorem dX10_way_31 : decode cX10_way 31 = .ok (.if_icmp .ne 8, 3) := dd_get dm_X10_way_0 19 rfl
theorem dX10_way_34 : decode cX10_way 34 = .ok (.bipush (-10), 2) := dd_get dm_X10_way_0 20 rfl
theorem dX10_way_36 : decode cX10_way 36 = .ok (.goto 4, 3) := dd_get dm_X10_way_0 21 rfl
theorem dX10_way_39 : decode cX10_way 39 = .ok (.iload_n 3, 1) := dd_get dm_X10_way_0 22 rfl
theorem dX10_way_40 : decode cX10_way 40 = .ok (.ireturn, 1) := dd_get dm_X10_way_0 23 rfl
theorem dm_X10_next_0 : (([(0, .iconst 0, 1), (1, .istore_n 3, 1), (2, .iload_n 3, 1), (3, .bipush 40, 2), (5, .if_icmp .ge 128, 3), (8, .iconst 0, 1), (9, .istore 4, 2), (11, .iload 4, 2), (13, .aload_n 0, 1), (14, .getfield 103, 3), (17, .if_icmp .ge 110, 3), (20, .aload_n 0, 1), (21, .getfield 7, 3), (24, .iload 4, 2), (26, .iaload, 1), (27, .iload_n 1, 1), (28, .if_icmp .ne 14, 3), (31, .aload_n 0, 1), (32, .getfield 13, 3), (35, .iload 4, 2), (37, .iaload, 1), (38, .iload_n 3, 1), (39, .if_icmp .eq 25, 3), (42, .aload_n 0, 1), (43, .getfield 7, 3), (46, .iload 4, 2), (48, .iaload, 1), (49, .iload_n 3, 1), (50, .if_icmp .ne 18, 3), (53, .aload_n 0, 1), (54, .getfield 13, 3), (57, .iload 4, 2), (59, .iaload, 1), (60, .iload_n 1, 1), (61, .if_icmp .ne 7, 3), (64, .iconst 1, 1), (65, .goto 4, 3), (68, .iconst 0, 1), (69, .istore 5, 2), (71, .aload_n 0, 1), (72, .getfield 19, 3), (75, .iload 4, 2), (77, .baload, 1), (78, .ifCond .eq 43, 3), (81, .iload 5, 2), (83, .ifCond .eq 38, 3), (86, .aload_n 0, 1), (87, .getfield 16, 3), (90, .iload 4, 2), (92, .iaload, 1), (93, .aload_n 0, 1), (94, .getfield 33, 3), (97, .bipush 40, 2), (99, .iload_n 3, 1), (100, .imul, 1), (101, .iload_n 2, 1), (102, .iadd, 1), (103, .iaload, 1), (104, .iadd, 1), (105, .aload_n 0, 1)] : List (Nat × Instr × Nat)).all fun q => decide (decode cX10_next q.1 = .ok (q.2.1, q.2.2))) = true := by decide +kernel
theorem dX10_next_0 : decode cX10_next 0 = .ok (.iconst 0, 1) := dd_get dm_X10_next_0 0 rfl
theorem dX10_next_1 : decode cX10_next 1 = .ok (.istore_n 3, 1) := dd_get dm_X10_next_0 1 rfl
theorem dX10_next_2 : decode cX10_next 2 = .ok (.iload_n 3, 1) := dd_get dm_X10_next_0 2 rfl
theorem dX10_next_3 : decode cX10_next 3 = .ok (.bipush 40, 2) := dd_get dm_X10_next_0 3 rfl
theorem dX10_next_5 : decode cX10_next 5 = .ok (.if_icmp .ge 128, 3) := dd_get dm_X10_next_0 4 rfl
theorem dX10_next_8 : decode cX10_next 8 = .ok (.iconst 0, 1) := dd_get dm_X10_next_0 5 rfl
theorem dX10_next_9 : decode cX10_next 9 = .ok (.istore 4, 2) := dd_get dm_X10_next_0 6 rfl
theorem dX10_next_11 : decode cX10_next 11 = .ok (.iload 4, 2) := dd_get dm_X10_next_0 7 rfl
theorem dX10_next_13 : decode cX10_next 13 = .ok (.aload_n 0, 1) := dd_get dm_X10_next_0 8 rfl
theorem dX10_next_14 : decode cX10_next 14 = .ok (.getfield 103, 3) := dd_get dm_X10_next_0 9 rfl
theorem dX10_next_17 : decode cX10_next 17 = .ok (.if_icmp .ge 110, 3) := dd_get dm_X10_next_0 10 rfl
theorem dX10_next_20 : decode cX10_next 20 = .ok (.aload_n 0, 1) := dd_get dm_X10_next_0 11 rfl
theorem dX10_next_21 : decode cX10_next 21 = .ok (.getfield 7, 3) := dd_get dm_X10_next_0 12 rfl
theorem dX10_next_24 : decode cX10_next 24 = .ok (.iload 4, 2) := dd_get dm_X10_next_0 13 rfl
theorem dX10_next_26 : decode cX10_next 26 = .ok (.iaload, 1) := dd_get dm_X10_next_0 14 rfl
theorem dX10_next_27 : decode cX10_next 27 = .ok (.iload_n 1, 1) := dd_get dm_X10_next_0 15 rfl
theorem dX10_next_28 : decode cX10_next 28 = .ok (.if_icmp .ne 14, 3) := dd_get dm_X10_next_0 16 rfl
theorem dX10_next_31 : decode cX10_next 31 = .ok (.aload_n 0, 1) := dd_get dm_X10_next_0 17 rfl
theorem dX10_next_32 : decode cX10_next 32 = .ok (.getfield 13, 3) := dd_get dm_X10_next_0 18 rfl
theorem dX10_next_35 : decode cX10_next 35 = .ok (.iload 4, 2) := dd_get dm_X10_next_0 19 rfl
theorem dX10_next_37 : decode cX10_next 37 = .ok (.iaload, 1) := dd_get dm_X10_next_0 20 rfl
theorem dX10_next_38 : decode cX10_next 38 = .ok (.iload_n 3, 1) := dd_get dm_X10_next_0 21 rfl
theorem dX10_next_39 : decode cX10_next 39 = .ok (.if_icmp .eq 25, 3) := dd_get dm_X10_next_0 22 rfl
theorem dX10_next_42 : decode cX10_next 42 = .ok (.aload_n 0, 1) := dd_get dm_X10_next_0 23 rfl
theorem dX10_next_43 : decode cX10_next 43 = .ok (.getfield 7, 3) := dd_get dm_X10_next_0 24 rfl
theorem dX10_next_46 : decode cX10_next 46 = .ok (.iload 4, 2) := dd_get dm_X10_next_0 25 rfl
theorem dX10_next_48 : decode cX10_next 48 = .ok (.iaload, 1) := dd_get dm_X10_next_0 26 rfl
theorem dX10_next_49 : decode cX10_next 49 = .ok (.iload_n 3, 1) := dd_get dm_X10_next_0 27 rfl
theorem dX10_next_50 : decode cX10_next 50 = .ok (.if_icmp .ne 18, 3) := dd_get dm_X10_next_0 28 rfl
theorem dX10_next_53 : decode cX10_next 53 = .ok (.aload_n 0, 1) := dd_get dm_X10_next_0 29 rfl
theorem dX10_next_54 : decode cX10_next 54 = .ok (.getfield 13, 3) := dd_get dm_X10_next_0 30 rfl
theorem dX10_next_57 : decode cX10_next 57 = .ok (.iload 4, 2) := dd_get dm_X10_next_0 31 rfl
theorem dX10_next_59 : decode cX10_next 59 = .ok (.iaload, 1) := dd_get dm_X10_next_0 32 rfl
theorem dX10_next_60 : decode cX10_next 60 = .ok (.iload_n 1, 1) := dd_get dm_X10_next_0 33 rfl
theorem dX10_next_61 : decode cX10_next 61 = .ok (.if_icmp .ne 7, 3) := dd_get dm_X10_next_0 34 rfl
theorem dX10_next_64 : decode cX10_next 64 = .ok (.iconst 1, 1) := dd_get dm_X10_next_0 35 rfl
theorem dX10_next_65 : decode cX10_next 65 = .ok (.goto 4, 3) := dd_get dm_X10_next_0 36 rfl
theorem dX10_next_68 : decode cX10_next 68 = .ok (.iconst 0, 1) := dd_get dm_X10_next_0 37 rfl
theorem dX10_next_69 : decode cX10_next 69 = .ok (.istore 5, 2) := dd_get dm_X10_next_0 38 rfl
theorem dX10_next_71 : decode cX10_next 71 = .ok (.aload_n 0, 1) := dd_get dm_X10_next_0 39 rfl
theorem dX10_next_72 : decode cX10_next 72 = .ok (.getfield 19, 3) := dd_get dm_X10_next_0 40 rfl
theorem dX10_next_75 : decode cX10_next 75 = .ok (.iload 4, 2) := dd_get dm_X10_next_0 41 rfl
theorem dX10_next_77 : decode cX10_next 77 = .ok (.baload, 1) := dd_get dm_X10_next_0 42 rfl
theorem dX10_next_78 : decode cX10_next 78 = .ok (.ifCond .eq 43, 3) := dd_get dm_X10_next_0 43 rfl
theorem dX10_next_81 : decode cX10_next 81 = .ok (.iload 5, 2) := dd_get dm_X10_next_0 44 rfl
theorem dX10_next_83 : decode cX10_next 83 = .ok (.ifCond .eq 38, 3) := dd_get dm_X10_next_0 45 rfl
theorem dX10_next_86 : decode cX10_next 86 = .ok (.aload_n 0, 1) := dd_get dm_X10_next_0 46 rfl
theorem dX10_next_87 : decode cX10_next 87 = .ok (.getfield 16, 3) := dd_get dm_X10_next_0 47 rfl
theorem dX10_next_90 : decode cX10_next 90 = .ok (.iload 4, 2) := dd_get dm_X10_next_0 48 rfl
theorem dX10_next_92 : decode cX10_next 92 = .ok (.iaload, 1) := dd_get dm_X10_next_0 49 rfl
theorem dX10_next_93 : decode cX10_next 93 = .ok (.aload_n 0, 1) := dd_get dm_X10_next_0 50 rfl
theorem dX10_next_94 : decode cX10_next 94 = .ok (.getfield 33, 3) := dd_get dm_X10_next_0 51 rfl
theorem dX10_next_97 : decode cX10_next 97 = .ok (.bipush 40, 2) := dd_get dm_X10_next_0 52 rfl
theorem dX10_next_99 : decode cX10_next 99 = .ok (.iload_n 3, 1) := dd_get dm_X10_next_0 53 rfl
theorem dX10_next_100 : decode cX10_next 100 = .ok (.imul, 1) := dd_get dm_X10_next_0 54 rfl
theorem dX10_next_101 : decode cX10_next 101 = .ok (.iload_n 2, 1) := dd_get dm_X10_next_0 55 rfl
theorem dX10_next_102 : decode cX10_next 102 = .ok (.iadd, 1) := dd_get dm_X10_next_0 56 rfl
theorem dX10_next_103 : decode cX10_next 103 = .ok (.iaload, 1) := dd_get dm_X10_next_0 57 rfl
theorem dX10_next_104 : decode cX10_next 104 = .ok (.iadd, 1) := dd_get dm_X10_next_0 58 rfl
theorem dX10_next_105 : decode cX10_next 105 = .ok (.aload_n 0, 1) := dd_get dm_X10_next_0 59 rfl
theorem dm_X10_next_1 : (([(106, .getfield 33, 3), (109, .bipush 40, 2), (111, .iload_n 1, 1), (112, .imul, 1), (113, .iload_n 2, 1), (114, .iadd, 1), (115, .iaload, 1), (116, .if_icmp .ne 5, 3), (119, .iload_n 3, 1), (120, .ireturn, 1), (121, .iinc 4 1, 3), (124, .goto (-113), 3), (127, .iinc 3 1, 3), (130, .goto (-128), 3), (133, .iconst (-1), 1), (134, .ireturn, 1)] : List (Nat × Instr × Nat)).all fun q => decide (decode cX10_next q.1 = .ok (q.2.1, q.2.2))) = true := by decide +kernel
theorem dX10_next_106 : decode cX10_next 106 = .ok (.getfield 33, 3) := dd_get dm_X10_next_1 0 rfl
theorem dX10_next_109 : decode cX10_next 109 = .ok (.bipush 40, 2) := dd_get dm_X10_next_1 1 rfl
theorem dX10_next_111 : decode cX10_next 111 = .ok (.iload_n 1, 1) := dd_get dm_X10_next_1 2 rfl
theorem dX10_next_112 : decode cX10_next 112 = .ok (.imul, 1) := dd_get dm_X10_next_1 3 rfl
theorem dX10_next_113 : decode cX10_next 113 = .ok (.iload_n 2, 1) := dd_get dm_X10_next_1 4 rfl
theorem dX10_next_114 : decode cX10_next 114 = .ok (.iadd, 1) := dd_get dm_X10_next_1 5 rfl
theorem dX10_next_115 : decode cX10_next 115 = .ok (.iaload, 1) := dd_get dm_X10_next_1 6 rfl
theorem dX10_next_116 : decode cX10_next 116 = .ok (.if_icmp .ne 5, 3) := dd_get dm_X10_next_1 7 rfl
theorem dX10_next_119 : decode cX10_next 119 = .ok (.iload_n 3, 1) := dd_get dm_X10_next_1 8 rfl
theorem dX10_next_120 : decode cX10_next 120 = .ok (.ireturn, 1) := dd_get dm_X10_next_1 9 rfl
theorem dX10_next_121 : decode cX10_next 121 = .ok (.iinc 4 1, 3) := dd_get dm_X10_next_1 10 rfl
theorem dX10_next_124 : decode cX10_next 124 = .ok (.goto (-113), 3) := dd_get dm_X10_next_1 11 rfl
theorem dX10_next_127 : decode cX10_next 127 = .ok (.iinc 3 1, 3) := dd_get dm_X10_next_1 12 rfl
theorem dX10_next_130 : decode cX10_next 130 = .ok (.goto (-128), 3) := dd_get dm_X10_next_1 13 rfl
theorem dX10_next_133 : decode cX10_next 133 = .ok (.iconst (-1), 1) := dd_get dm_X10_next_1 14 rfl
theorem dX10_next_134 : decode cX10_next 134 = .ok (.ireturn, 1) := dd_get dm_X10_next_1 15 rfl
theorem dm_X10_walk_0 : (([(0, .iload_n 1, 1), (1, .invokestatic 114, 3), (4, .ifCond .eq 30, 3), (7, .iload_n 2, 1), (8, .invokestatic 114, 3), (11, .ifCond .eq 23, 3), (14, .aload_n 0, 1), (15, .getfield 33, 3), (18, .bipush 40, 2), (20, .iload_n 1, 1), (21, .imul, 1), (22, .iload_n 2, 1), (23, .iadd, 1), (24, .iaload, 1), (25, .ldc 102, 2), (27, .if_icmp .eq 7, 3), (30, .iload_n 3, 1), (31, .ifCond .ge 5, 3), (34, .iconst (-1), 1), (35, .ireturn, 1), (36, .iload_n 1, 1), (37, .istore 4, 2), (39, .iconst 0, 1), (40, .istore 5, 2), (42, .iload 5, 2), (44, .iload_n 3, 1), (45, .if_icmp .ge 26, 3), (48, .iload 4, 2), (50, .iload_n 2, 1), (51, .if_icmp .ne 5, 3), (54, .iconst (-1), 1), (55, .ireturn, 1), (56, .aload_n 0, 1), (57, .iload 4, 2), (59, .iload_n 2, 1), (60, .invokevirtual 130, 3), (63, .istore 4, 2), (65, .iinc 5 1, 3), (68, .goto (-26), 3), (71, .iload 4, 2), (73, .ireturn, 1)] : List (Nat × Instr × Nat)).all fun q => decide (decode cX10_walk q.1 = .ok (q.2.1, q.2.2))) = true := by decide +kernel
theorem dX10_walk_0 : decode cX10_walk 0 = .ok (.iload_n 1, 1) := dd_get dm_X10_walk_0 0 rfl
theorem dX10_walk_1 : decode cX10_walk 1 = .ok (.invokestatic 114, 3) := dd_get dm_X10_walk_0 1 rfl
theorem dX10_walk_4 : decode cX10_walk 4 = .ok (.ifCond .eq 30, 3) := dd_get dm_X10_walk_0 2 rfl
theorem dX10_walk_7 : decode cX10_walk 7 = .ok (.iload_n 2, 1) := dd_get dm_X10_walk_0 3 rfl
theorem dX10_walk_8 : decode cX10_walk 8 = .ok (.invokestatic 114, 3) := dd_get dm_X10_walk_0 4 rfl
theorem dX10_walk_11 : decode cX10_walk 11 = .ok (.ifCond .eq 23, 3) := dd_get dm_X10_walk_0 5 rfl
theorem dX10_walk_14 : decode cX10_walk 14 = .ok (.aload_n 0, 1) := dd_get dm_X10_walk_0 6 rfl
theorem dX10_walk_15 : decode cX10_walk 15 = .ok (.getfield 33, 3) := dd_get dm_X10_walk_0 7 rfl
theorem dX10_walk_18 : decode cX10_walk 18 = .ok (.bipush 40, 2) := dd_get dm_X10_walk_0 8 rfl
theorem dX10_walk_20 : decode cX10_walk 20 = .ok (.iload_n 1, 1) := dd_get dm_X10_walk_0 9 rfl
theorem dX10_walk_21 : decode cX10_walk 21 = .ok (.imul, 1) := dd_get dm_X10_walk_0 10 rfl
theorem dX10_walk_22 : decode cX10_walk 22 = .ok (.iload_n 2, 1) := dd_get dm_X10_walk_0 11 rfl
theorem dX10_walk_23 : decode cX10_walk 23 = .ok (.iadd, 1) := dd_get dm_X10_walk_0 12 rfl
theorem dX10_walk_24 : decode cX10_walk 24 = .ok (.iaload, 1) := dd_get dm_X10_walk_0 13 rfl
theorem dX10_walk_25 : decode cX10_walk 25 = .ok (.ldc 102, 2) := dd_get dm_X10_walk_0 14 rfl
theorem dX10_walk_27 : decode cX10_walk 27 = .ok (.if_icmp .eq 7, 3) := dd_get dm_X10_walk_0 15 rfl
theorem dX10_walk_30 : decode cX10_walk 30 = .ok (.iload_n 3, 1) := dd_get dm_X10_walk_0 16 rfl
theorem dX10_walk_31 : decode cX10_walk 31 = .ok (.ifCond .ge 5, 3) := dd_get dm_X10_walk_0 17 rfl
theorem dX10_walk_34 : decode cX10_walk 34 = .ok (.iconst (-1), 1) := dd_get dm_X10_walk_0 18 rfl
theorem dX10_walk_35 : decode cX10_walk 35 = .ok (.ireturn, 1) := dd_get dm_X10_walk_0 19 rfl
theorem dX10_walk_36 : decode cX10_walk 36 = .ok (.iload_n 1, 1) := dd_get dm_X10_walk_0 20 rfl
theorem dX10_walk_37 : decode cX10_walk 37 = .ok (.istore 4, 2) := dd_get dm_X10_walk_0 21 rfl
theorem dX10_walk_39 : decode cX10_walk 39 = .ok (.iconst 0, 1) := dd_get dm_X10_walk_0 22 rfl
theorem dX10_walk_40 : decode cX10_walk 40 = .ok (.istore 5, 2) := dd_get dm_X10_walk_0 23 rfl
theorem dX10_walk_42 : decode cX10_walk 42 = .ok (.iload 5, 2) := dd_get dm_X10_walk_0 24 rfl
theorem dX10_walk_44 : decode cX10_walk 44 = .ok (.iload_n 3, 1) := dd_get dm_X10_walk_0 25 rfl
theorem dX10_walk_45 : decode cX10_walk 45 = .ok (.if_icmp .ge 26, 3) := dd_get dm_X10_walk_0 26 rfl
theorem dX10_walk_48 : decode cX10_walk 48 = .ok (.iload 4, 2) := dd_get dm_X10_walk_0 27 rfl
theorem dX10_walk_50 : decode cX10_walk 50 = .ok (.iload_n 2, 1) := dd_get dm_X10_walk_0 28 rfl
theorem dX10_walk_51 : decode cX10_walk 51 = .ok (.if_icmp .ne 5, 3) := dd_get dm_X10_walk_0 29 rfl
theorem dX10_walk_54 : decode cX10_walk 54 = .ok (.iconst (-1), 1) := dd_get dm_X10_walk_0 30 rfl
theorem dX10_walk_55 : decode cX10_walk 55 = .ok (.ireturn, 1) := dd_get dm_X10_walk_0 31 rfl
theorem dX10_walk_56 : decode cX10_walk 56 = .ok (.aload_n 0, 1) := dd_get dm_X10_walk_0 32 rfl
theorem dX10_walk_57 : decode cX10_walk 57 = .ok (.iload 4, 2) := dd_get dm_X10_walk_0 33 rfl
theorem dX10_walk_59 : decode cX10_walk 59 = .ok (.iload_n 2, 1) := dd_get dm_X10_walk_0 34 rfl
theorem dX10_walk_60 : decode cX10_walk 60 = .ok (.invokevirtual 130, 3) := dd_get dm_X10_walk_0 35 rfl
theorem dX10_walk_63 : decode cX10_walk 63 = .ok (.istore 4, 2) := dd_get dm_X10_walk_0 36 rfl
theorem dX10_walk_65 : decode cX10_walk 65 = .ok (.iinc 5 1, 3) := dd_get dm_X10_walk_0 37 rfl
theorem dX10_walk_68 : decode cX10_walk 68 = .ok (.goto (-26), 3) := dd_get dm_X10_walk_0 38 rfl
theorem dX10_walk_71 : decode cX10_walk 71 = .ok (.iload 4, 2) := dd_get dm_X10_walk_0 39 rfl
theorem dX10_walk_73 : decode cX10_walk 73 = .ok (.ireturn, 1) := dd_get dm_X10_walk_0 40 rfl
theorem dm_X10_lamp_0 : (([(0, .iload_n 1, 1), (1, .invokestatic 114, 3), (4, .ifCond .eq 12, 3), (7, .iload_n 2, 1), (8, .ifCond .lt 8, 3), (11, .iload_n 2, 1), (12, .iconst 4, 1), (13, .if_icmp .le 5, 3), (16, .iconst (-1), 1), (17, .ireturn, 1), (18, .iconst 0, 1), (19, .istore 4, 2), (21, .iload 4, 2), (23, .aload_n 0, 1), (24, .getfield 107, 3), (27, .if_icmp .ge 23, 3), (30, .aload_n 0, 1), (31, .getfield 36, 3), (34, .iload 4, 2), (36, .iaload, 1), (37, .iload_n 1, 1), (38, .if_icmp .ne 6, 3), (41, .bipush (-4), 2), (43, .ireturn, 1), (44, .iinc 4 1, 3), (47, .goto (-26), 3), (50, .iload_n 2, 1), (51, .iconst 1, 1), (52, .if_icmp .ne 13, 3), (55, .aload_n 0, 1), (56, .iload_n 3, 1), (57, .invokevirtual 110, 3), (60, .ifCond .ne 5, 3), (63, .iconst (-1), 1), (64, .ireturn, 1), (65, .aload_n 0, 1), (66, .getfield 107, 3), (69, .bipush 12, 2), (71, .if_icmp .ne 6, 3), (74, .bipush (-2), 2), (76, .ireturn, 1), (77, .aload_n 0, 1), (78, .getfield 36, 3), (81, .aload_n 0, 1), (82, .getfield 107, 3), (85, .iload_n 1, 1), (86, .iastore, 1), (87, .aload_n 0, 1), (88, .getfield 39, 3), (91, .aload_n 0, 1), (92, .getfield 107, 3), (95, .iload_n 2, 1), (96, .iastore, 1), (97, .aload_n 0, 1), (98, .getfield 42, 3), (101, .aload_n 0, 1), (102, .getfield 107, 3), (105, .iload_n 3, 1), (106, .iastore, 1), (107, .aload_n 0, 1)] : List (Nat × Instr × Nat)).all fun q => decide (decode cX10_lamp q.1 = .ok (q.2.1, q.2.2))) = true := by decide +kernel
theorem dX10_lamp_0 : decode cX10_lamp 0 = .ok (.iload_n 1, 1) := dd_get dm_X10_lamp_0 0 rfl
theorem dX10_lamp_1 : decode cX10_lamp 1 = .ok (.invokestatic 114, 3) := dd_get dm_X10_lamp_0 1 rfl
theorem dX10_lamp_4 : decode cX10_lamp 4 = .ok (.ifCond .eq 12, 3) := dd_get dm_X10_lamp_0 2 rfl
theorem dX10_lamp_7 : decode cX10_lamp 7 = .ok (.iload_n 2, 1) := dd_get dm_X10_lamp_0 3 rfl
theorem dX10_lamp_8 : decode cX10_lamp 8 = .ok (.ifCond .lt 8, 3) := dd_get dm_X10_lamp_0 4 rfl
theorem dX10_lamp_11 : decode cX10_lamp 11 = .ok (.iload_n 2, 1) := dd_get dm_X10_lamp_0 5 rfl
theorem dX10_lamp_12 : decode cX10_lamp 12 = .ok (.iconst 4, 1) := dd_get dm_X10_lamp_0 6 rfl
theorem dX10_lamp_13 : decode cX10_lamp 13 = .ok (.if_icmp .le 5, 3) := dd_get dm_X10_lamp_0 7 rfl
theorem dX10_lamp_16 : decode cX10_lamp 16 = .ok (.iconst (-1), 1) := dd_get dm_X10_lamp_0 8 rfl
theorem dX10_lamp_17 : decode cX10_lamp 17 = .ok (.ireturn, 1) := dd_get dm_X10_lamp_0 9 rfl
theorem dX10_lamp_18 : decode cX10_lamp 18 = .ok (.iconst 0, 1) := dd_get dm_X10_lamp_0 10 rfl
theorem dX10_lamp_19 : decode cX10_lamp 19 = .ok (.istore 4, 2) := dd_get dm_X10_lamp_0 11 rfl
theorem dX10_lamp_21 : decode cX10_lamp 21 = .ok (.iload 4, 2) := dd_get dm_X10_lamp_0 12 rfl
theorem dX10_lamp_23 : decode cX10_lamp 23 = .ok (.aload_n 0, 1) := dd_get dm_X10_lamp_0 13 rfl
theorem dX10_lamp_24 : decode cX10_lamp 24 = .ok (.getfield 107, 3) := dd_get dm_X10_lamp_0 14 rfl
theorem dX10_lamp_27 : decode cX10_lamp 27 = .ok (.if_icmp .ge 23, 3) := dd_get dm_X10_lamp_0 15 rfl
theorem dX10_lamp_30 : decode cX10_lamp 30 = .ok (.aload_n 0, 1) := dd_get dm_X10_lamp_0 16 rfl
theorem dX10_lamp_31 : decode cX10_lamp 31 = .ok (.getfield 36, 3) := dd_get dm_X10_lamp_0 17 rfl
theorem dX10_lamp_34 : decode cX10_lamp 34 = .ok (.iload 4, 2) := dd_get dm_X10_lamp_0 18 rfl
theorem dX10_lamp_36 : decode cX10_lamp 36 = .ok (.iaload, 1) := dd_get dm_X10_lamp_0 19 rfl
theorem dX10_lamp_37 : decode cX10_lamp 37 = .ok (.iload_n 1, 1) := dd_get dm_X10_lamp_0 20 rfl
theorem dX10_lamp_38 : decode cX10_lamp 38 = .ok (.if_icmp .ne 6, 3) := dd_get dm_X10_lamp_0 21 rfl
theorem dX10_lamp_41 : decode cX10_lamp 41 = .ok (.bipush (-4), 2) := dd_get dm_X10_lamp_0 22 rfl
theorem dX10_lamp_43 : decode cX10_lamp 43 = .ok (.ireturn, 1) := dd_get dm_X10_lamp_0 23 rfl
theorem dX10_lamp_44 : decode cX10_lamp 44 = .ok (.iinc 4 1, 3) := dd_get dm_X10_lamp_0 24 rfl
theorem dX10_lamp_47 : decode cX10_lamp 47 = .ok (.goto (-26), 3) := dd_get dm_X10_lamp_0 25 rfl
theorem dX10_lamp_50 : decode cX10_lamp 50 = .ok (.iload_n 2, 1) := dd_get dm_X10_lamp_0 26 rfl
theorem dX10_lamp_51 : decode cX10_lamp 51 = .ok (.iconst 1, 1) := dd_get dm_X10_lamp_0 27 rfl
theorem dX10_lamp_52 : decode cX10_lamp 52 = .ok (.if_icmp .ne 13, 3) := dd_get dm_X10_lamp_0 28 rfl
theorem dX10_lamp_55 : decode cX10_lamp 55 = .ok (.aload_n 0, 1) := dd_get dm_X10_lamp_0 29 rfl
theorem dX10_lamp_56 : decode cX10_lamp 56 = .ok (.iload_n 3, 1) := dd_get dm_X10_lamp_0 30 rfl
theorem dX10_lamp_57 : decode cX10_lamp 57 = .ok (.invokevirtual 110, 3) := dd_get dm_X10_lamp_0 31 rfl
theorem dX10_lamp_60 : decode cX10_lamp 60 = .ok (.ifCond .ne 5, 3) := dd_get dm_X10_lamp_0 32 rfl
theorem dX10_lamp_63 : decode cX10_lamp 63 = .ok (.iconst (-1), 1) := dd_get dm_X10_lamp_0 33 rfl
theorem dX10_lamp_64 : decode cX10_lamp 64 = .ok (.ireturn, 1) := dd_get dm_X10_lamp_0 34 rfl
theorem dX10_lamp_65 : decode cX10_lamp 65 = .ok (.aload_n 0, 1) := dd_get dm_X10_lamp_0 35 rfl
theorem dX10_lamp_66 : decode cX10_lamp 66 = .ok (.getfield 107, 3) := dd_get dm_X10_lamp_0 36 rfl
theorem dX10_lamp_69 : decode cX10_lamp 69 = .ok (.bipush 12, 2) := dd_get dm_X10_lamp_0 37 rfl
theorem dX10_lamp_71 : decode cX10_lamp 71 = .ok (.if_icmp .ne 6, 3) := dd_get dm_X10_lamp_0 38 rfl
theorem dX10_lamp_74 : decode cX10_lamp 74 = .ok (.bipush (-2), 2) := dd_get dm_X10_lamp_0 39 rfl
theorem dX10_lamp_76 : decode cX10_lamp 76 = .ok (.ireturn, 1) := dd_get dm_X10_lamp_0 40 rfl
theorem dX10_lamp_77 : decode cX10_lamp 77 = .ok (.aload_n 0, 1) := dd_get dm_X10_lamp_0 41 rfl
theorem dX10_lamp_78 : decode cX10_lamp 78 = .ok (.getfield 36, 3) := dd_get dm_X10_lamp_0 42 rfl
theorem dX10_lamp_81 : decode cX10_lamp 81 = .ok (.aload_n 0, 1) := dd_get dm_X10_lamp_0 43 rfl
theorem dX10_lamp_82 : decode cX10_lamp 82 = .ok (.getfield 107, 3) := dd_get dm_X10_lamp_0 44 rfl
theorem dX10_lamp_85 : decode cX10_lamp 85 = .ok (.iload_n 1, 1) := dd_get dm_X10_lamp_0 45 rfl
theorem dX10_lamp_86 : decode cX10_lamp 86 = .ok (.iastore, 1) := dd_get dm_X10_lamp_0 46 rfl
theorem dX10_lamp_87 : decode cX10_lamp 87 = .ok (.aload_n 0, 1) := dd_get dm_X10_lamp_0 47 rfl
theorem dX10_lamp_88 : decode cX10_lamp 88 = .ok (.getfield 39, 3) := dd_get dm_X10_lamp_0 48 rfl
theorem dX10_lamp_91 : decode cX10_lamp 91 = .ok (.aload_n 0, 1) := dd_get dm_X10_lamp_0 49 rfl
theorem dX10_lamp_92 : decode cX10_lamp 92 = .ok (.getfield 107, 3) := dd_get dm_X10_lamp_0 50 rfl
theorem dX10_lamp_95 : decode cX10_lamp 95 = .ok (.iload_n 2, 1) := dd_get dm_X10_lamp_0 51 rfl
theorem dX10_lamp_96 : decode cX10_lamp 96 = .ok (.iastore, 1) := dd_get dm_X10_lamp_0 52 rfl
theorem dX10_lamp_97 : decode cX10_lamp 97 = .ok (.aload_n 0, 1) := dd_get dm_X10_lamp_0 53 rfl
theorem dX10_lamp_98 : decode cX10_lamp 98 = .ok (.getfield 42, 3) := dd_get dm_X10_lamp_0 54 rfl
theorem dX10_lamp_101 : decode cX10_lamp 101 = .ok (.aload_n 0, 1) := dd_get dm_X10_lamp_0 55 rfl
theorem dX10_lamp_102 : decode cX10_lamp 102 = .ok (.getfield 107, 3) := dd_get dm_X10_lamp_0 56 rfl
theorem dX10_lamp_105 : decode cX10_lamp 105 = .ok (.iload_n 3, 1) := dd_get dm_X10_lamp_0 57 rfl
theorem dX10_lamp_106 : decode cX10_lamp 106 = .ok (.iastore, 1) := dd_get dm_X10_lamp_0 58 rfl
theorem dX10_lamp_107 : decode cX10_lamp 107 = .ok (.aload_n 0, 1) := dd_get dm_X10_lamp_0 59 rfl
theorem dm_X10_lamp_1 : (([(108, .getfield 45, 3), (111, .aload_n 0, 1), (112, .getfield 107, 3), (115, .iconst 0, 1), (116, .bastore, 1), (117, .aload_n 0, 1), (118, .getfield 48, 3), (121, .aload_n 0, 1), (122, .getfield 107, 3), (125, .iconst 0, 1), (126, .iastore, 1), (127, .aload_n 0, 1), (128, .dup, 1), (129, .getfield 107, 3), (132, .iconst 1, 1), (133, .iadd, 1), (134, .putfield 107, 3), (137, .aload_n 0, 1), (138, .iconst 0, 1), (139, .putfield 117, 3), (142, .aload_n 0, 1), (143, .getfield 107, 3), (146, .iconst 1, 1), (147, .isub, 1), (148, .ireturn, 1)] : List (Nat × Instr × Nat)).all fun q => decide (decode cX10_lamp q.1 = .ok (q.2.1, q.2.2))) = true := by decide +kernel
theorem dX10_lamp_108 : decode cX10_lamp 108 = .ok (.getfield 45, 3) := dd_get dm_X10_lamp_1 0 rfl
theorem dX10_lamp_111 : decode cX10_lamp 111 = .ok (.aload_n 0, 1) := dd_get dm_X10_lamp_1 1 rfl
theorem dX10_lamp_112 : decode cX10_lamp 112 = .ok (.getfield 107, 3) := dd_get dm_X10_lamp_1 2 rfl
theorem dX10_lamp_115 : decode cX10_lamp 115 = .ok (.iconst 0, 1) := dd_get dm_X10_lamp_1 3 rfl
theorem dX10_lamp_116 : decode cX10_lamp 116 = .ok (.bastore, 1) := dd_get dm_X10_lamp_1 4 rfl
theorem dX10_lamp_117 : decode cX10_lamp 117 = .ok (.aload_n 0, 1) := dd_get dm_X10_lamp_1 5 rfl
theorem dX10_lamp_118 : decode cX10_lamp 118 = .ok (.getfield 48, 3) := dd_get dm_X10_lamp_1 6 rfl
theorem dX10_lamp_121 : decode cX10_lamp 121 = .ok (.aload_n 0, 1) := dd_get dm_X10_lamp_1 7 rfl
theorem dX10_lamp_122 : decode cX10_lamp 122 = .ok (.getfield 107, 3) := dd_get dm_X10_lamp_1 8 rfl
theorem dX10_lamp_125 : decode cX10_lamp 125 = .ok (.iconst 0, 1) := dd_get dm_X10_lamp_1 9 rfl
theorem dX10_lamp_126 : decode cX10_lamp 126 = .ok (.iastore, 1) := dd_get dm_X10_lamp_1 10 rfl
theorem dX10_lamp_127 : decode cX10_lamp 127 = .ok (.aload_n 0, 1) := dd_get dm_X10_lamp_1 11 rfl
theorem dX10_lamp_128 : decode cX10_lamp 128 = .ok (.dup, 1) := dd_get dm_X10_lamp_1 12 rfl
theorem dX10_lamp_129 : decode cX10_lamp 129 = .ok (.getfield 107, 3) := dd_get dm_X10_lamp_1 13 rfl
theorem dX10_lamp_132 : decode cX10_lamp 132 = .ok (.iconst 1, 1) := dd_get dm_X10_lamp_1 14 rfl
theorem dX10_lamp_133 : decode cX10_lamp 133 = .ok (.iadd, 1) := dd_get dm_X10_lamp_1 15 rfl
theorem dX10_lamp_134 : decode cX10_lamp 134 = .ok (.putfield 107, 3) := dd_get dm_X10_lamp_1 16 rfl
theorem dX10_lamp_137 : decode cX10_lamp 137 = .ok (.aload_n 0, 1) := dd_get dm_X10_lamp_1 17 rfl
theorem dX10_lamp_138 : decode cX10_lamp 138 = .ok (.iconst 0, 1) := dd_get dm_X10_lamp_1 18 rfl
theorem dX10_lamp_139 : decode cX10_lamp 139 = .ok (.putfield 117, 3) := dd_get dm_X10_lamp_1 19 rfl
theorem dX10_lamp_142 : decode cX10_lamp 142 = .ok (.aload_n 0, 1) := dd_get dm_X10_lamp_1 20 rfl
theorem dX10_lamp_143 : decode cX10_lamp 143 = .ok (.getfield 107, 3) := dd_get dm_X10_lamp_1 21 rfl
theorem dX10_lamp_146 : decode cX10_lamp 146 = .ok (.iconst 1, 1) := dd_get dm_X10_lamp_1 22 rfl
theorem dX10_lamp_147 : decode cX10_lamp 147 = .ok (.isub, 1) := dd_get dm_X10_lamp_1 23 rfl
theorem dX10_lamp_148 : decode cX10_lamp 148 = .ok (.ireturn, 1) := dd_get dm_X10_lamp_1 24 rfl
theorem dm_X10_dark_0 : (([(0, .aload_n 0, 1), (1, .iload_n 1, 1), (2, .invokevirtual 110, 3), (5, .ifCond .ne 5, 3), (8, .iconst (-1), 1), (9, .ireturn, 1), (10, .aload_n 0, 1), (11, .getfield 39, 3), (14, .iload_n 1, 1), (15, .iaload, 1), (16, .iconst 3, 1), (17, .if_icmp .ge 6, 3), (20, .bipush (-5), 2), (22, .ireturn, 1), (23, .aload_n 0, 1), (24, .getfield 45, 3), (27, .iload_n 1, 1), (28, .baload, 1), (29, .iload_n 2, 1), (30, .if_icmp .ne 5, 3), (33, .iconst 0, 1), (34, .ireturn, 1), (35, .aload_n 0, 1), (36, .getfield 45, 3), (39, .iload_n 1, 1), (40, .iload_n 2, 1), (41, .bastore, 1), (42, .aload_n 0, 1), (43, .iconst 0, 1), (44, .putfield 117, 3), (47, .iconst 1, 1), (48, .ireturn, 1)] : List (Nat × Instr × Nat)).all fun q => decide (decode cX10_dark q.1 = .ok (q.2.1, q.2.2))) = true := by decide +kernel
theorem dX10_dark_0 : decode cX10_dark 0 = .ok (.aload_n 0, 1) := dd_get dm_X10_dark_0 0 rfl
theorem dX10_dark_1 : decode cX10_dark 1 = .ok (.iload_n 1, 1) := dd_get dm_X10_dark_0 1 rfl
theorem dX10_dark_2 : decode cX10_dark 2 = .ok (.invokevirtual 110, 3) := dd_get dm_X10_dark_0 2 rfl
theorem dX10_dark_5 : decode cX10_dark 5 = .ok (.ifCond .ne 5, 3) := dd_get dm_X10_dark_0 3 rfl
theorem dX10_dark_8 : decode cX10_dark 8 = .ok (.iconst (-1), 1) := dd_get dm_X10_dark_0 4 rfl
theorem dX10_dark_9 : decode cX10_dark 9 = .ok (.ireturn, 1) := dd_get dm_X10_dark_0 5 rfl
theorem dX10_dark_10 : decode cX10_dark 10 = .ok (.aload_n 0, 1) := dd_get dm_X10_dark_0 6 rfl
theorem dX10_dark_11 : decode cX10_dark 11 = .ok (.getfield 39, 3) := dd_get dm_X10_dark_0 7 rfl
theorem dX10_dark_14 : decode cX10_dark 14 = .ok (.iload_n 1, 1) := dd_get dm_X10_dark_0 8 rfl
theorem dX10_dark_15 : decode cX10_dark 15 = .ok (.iaload, 1) := dd_get dm_X10_dark_0 9 rfl
theorem dX10_dark_16 : decode cX10_dark 16 = .ok (.iconst 3, 1) := dd_get dm_X10_dark_0 10 rfl
theorem dX10_dark_17 : decode cX10_dark 17 = .ok (.if_icmp .ge 6, 3) := dd_get dm_X10_dark_0 11 rfl
theorem dX10_dark_20 : decode cX10_dark 20 = .ok (.bipush (-5), 2) := dd_get dm_X10_dark_0 12 rfl
theorem dX10_dark_22 : decode cX10_dark 22 = .ok (.ireturn, 1) := dd_get dm_X10_dark_0 13 rfl
theorem dX10_dark_23 : decode cX10_dark 23 = .ok (.aload_n 0, 1) := dd_get dm_X10_dark_0 14 rfl
theorem dX10_dark_24 : decode cX10_dark 24 = .ok (.getfield 45, 3) := dd_get dm_X10_dark_0 15 rfl
theorem dX10_dark_27 : decode cX10_dark 27 = .ok (.iload_n 1, 1) := dd_get dm_X10_dark_0 16 rfl
theorem dX10_dark_28 : decode cX10_dark 28 = .ok (.baload, 1) := dd_get dm_X10_dark_0 17 rfl
theorem dX10_dark_29 : decode cX10_dark 29 = .ok (.iload_n 2, 1) := dd_get dm_X10_dark_0 18 rfl
theorem dX10_dark_30 : decode cX10_dark 30 = .ok (.if_icmp .ne 5, 3) := dd_get dm_X10_dark_0 19 rfl
theorem dX10_dark_33 : decode cX10_dark 33 = .ok (.iconst 0, 1) := dd_get dm_X10_dark_0 20 rfl
theorem dX10_dark_34 : decode cX10_dark 34 = .ok (.ireturn, 1) := dd_get dm_X10_dark_0 21 rfl
theorem dX10_dark_35 : decode cX10_dark 35 = .ok (.aload_n 0, 1) := dd_get dm_X10_dark_0 22 rfl
theorem dX10_dark_36 : decode cX10_dark 36 = .ok (.getfield 45, 3) := dd_get dm_X10_dark_0 23 rfl
theorem dX10_dark_39 : decode cX10_dark 39 = .ok (.iload_n 1, 1) := dd_get dm_X10_dark_0 24 rfl
theorem dX10_dark_40 : decode cX10_dark 40 = .ok (.iload_n 2, 1) := dd_get dm_X10_dark_0 25 rfl
theorem dX10_dark_41 : decode cX10_dark 41 = .ok (.bastore, 1) := dd_get dm_X10_dark_0 26 rfl
theorem dX10_dark_42 : decode cX10_dark 42 = .ok (.aload_n 0, 1) := dd_get dm_X10_dark_0 27 rfl
theorem dX10_dark_43 : decode cX10_dark 43 = .ok (.iconst 0, 1) := dd_get dm_X10_dark_0 28 rfl
theorem dX10_dark_44 : decode cX10_dark 44 = .ok (.putfield 117, 3) := dd_get dm_X10_dark_0 29 rfl
theorem dX10_dark_47 : decode cX10_dark 47 = .ok (.iconst 1, 1) := dd_get dm_X10_dark_0 30 rfl
theorem dX10_dark_48 : decode cX10_dark 48 = .ok (.ireturn, 1) := dd_get dm_X10_dark_0 31 rfl
theorem dm_X10_twinOf_0 : (([(0, .aload_n 0, 1), (1, .getfield 39, 3), (4, .iload_n 1, 1), (5, .iaload, 1), (6, .iconst 1, 1), (7, .if_icmp .ne 10, 3), (10, .aload_n 0, 1), (11, .getfield 42, 3), (14, .iload_n 1, 1), (15, .iaload, 1), (16, .ireturn, 1), (17, .iconst (-1), 1), (18, .istore_n 2, 1), (19, .iconst 0, 1), (20, .istore_n 3, 1), (21, .iload_n 3, 1), (22, .aload_n 0, 1), (23, .getfield 107, 3), (26, .if_icmp .ge 56, 3), (29, .aload_n 0, 1), (30, .getfield 39, 3), (33, .iload_n 1, 1), (34, .iaload, 1), (35, .iconst 2, 1), (36, .if_icmp .ne 46, 3), (39, .iload_n 3, 1), (40, .iload_n 1, 1), (41, .if_icmp .eq 35, 3), (44, .aload_n 0, 1), (45, .iload_n 1, 1), (46, .iload_n 3, 1), (47, .invokevirtual 134, 3), (50, .ldc 102, 2), (52, .if_icmp .eq 24, 3), (55, .iload_n 2, 1), (56, .ifCond .lt 18, 3), (59, .aload_n 0, 1), (60, .iload_n 1, 1), (61, .iload_n 3, 1), (62, .invokevirtual 134, 3), (65, .aload_n 0, 1), (66, .iload_n 1, 1), (67, .iload_n 2, 1), (68, .invokevirtual 134, 3), (71, .if_icmp .ge 5, 3), (74, .iload_n 3, 1), (75, .istore_n 2, 1), (76, .iinc 3 1, 3), (79, .goto (-58), 3), (82, .iload_n 2, 1), (83, .ireturn, 1)] : List (Nat × Instr × Nat)).all fun q => decide (decode cX10_twinOf q.1 = .ok (q.2.1, q.2.2))) = true := by decide +kernel
theorem dX10_twinOf_0 : decode cX10_twinOf 0 = .ok (.aload_n 0, 1) := dd_get dm_X10_twinOf_0 0 rfl
theorem dX10_twinOf_1 : decode cX10_twinOf 1 = .ok (.getfield 39, 3) := dd_get dm_X10_twinOf_0 1 rfl
theorem dX10_twinOf_4 : decode cX10_twinOf 4 = .ok (.iload_n 1, 1) := dd_get dm_X10_twinOf_0 2 rfl
theorem dX10_twinOf_5 : decode cX10_twinOf 5 = .ok (.iaload, 1) := dd_get dm_X10_twinOf_0 3 rfl
theorem dX10_twinOf_6 : decode cX10_twinOf 6 = .ok (.iconst 1, 1) := dd_get dm_X10_twinOf_0 4 rfl
theorem dX10_twinOf_7 : decode cX10_twinOf 7 = .ok (.if_icmp .ne 10, 3) := dd_get dm_X10_twinOf_0 5 rfl
theorem dX10_twinOf_10 : decode cX10_twinOf 10 = .ok (.aload_n 0, 1) := dd_get dm_X10_twinOf_0 6 rfl
theorem dX10_twinOf_11 : decode cX10_twinOf 11 = .ok (.getfield 42, 3) := dd_get dm_X10_twinOf_0 7 rfl
theorem dX10_twinOf_14 : decode cX10_twinOf 14 = .ok (.iload_n 1, 1) := dd_get dm_X10_twinOf_0 8 rfl
theorem dX10_twinOf_15 : decode cX10_twinOf 15 = .ok (.iaload, 1) := dd_get dm_X10_twinOf_0 9 rfl
theorem dX10_twinOf_16 : decode cX10_twinOf 16 = .ok (.ireturn, 1) := dd_get dm_X10_twinOf_0 10 rfl
theorem dX10_twinOf_17 : decode cX10_twinOf 17 = .ok (.iconst (-1), 1) := dd_get dm_X10_twinOf_0 11 rfl
theorem dX10_twinOf_18 : decode cX10_twinOf 18 = .ok (.istore_n 2, 1) := dd_get dm_X10_twinOf_0 12 rfl
theorem dX10_twinOf_19 : decode cX10_twinOf 19 = .ok (.iconst 0, 1) := dd_get dm_X10_twinOf_0 13 rfl
theorem dX10_twinOf_20 : decode cX10_twinOf 20 = .ok (.istore_n 3, 1) := dd_get dm_X10_twinOf_0 14 rfl
theorem dX10_twinOf_21 : decode cX10_twinOf 21 = .ok (.iload_n 3, 1) := dd_get dm_X10_twinOf_0 15 rfl
theorem dX10_twinOf_22 : decode cX10_twinOf 22 = .ok (.aload_n 0, 1) := dd_get dm_X10_twinOf_0 16 rfl
theorem dX10_twinOf_23 : decode cX10_twinOf 23 = .ok (.getfield 107, 3) := dd_get dm_X10_twinOf_0 17 rfl
theorem dX10_twinOf_26 : decode cX10_twinOf 26 = .ok (.if_icmp .ge 56, 3) := dd_get dm_X10_twinOf_0 18 rfl
theorem dX10_twinOf_29 : decode cX10_twinOf 29 = .ok (.aload_n 0, 1) := dd_get dm_X10_twinOf_0 19 rfl
theorem dX10_twinOf_30 : decode cX10_twinOf 30 = .ok (.getfield 39, 3) := dd_get dm_X10_twinOf_0 20 rfl
theorem dX10_twinOf_33 : decode cX10_twinOf 33 = .ok (.iload_n 1, 1) := dd_get dm_X10_twinOf_0 21 rfl
theorem dX10_twinOf_34 : decode cX10_twinOf 34 = .ok (.iaload, 1) := dd_get dm_X10_twinOf_0 22 rfl
theorem dX10_twinOf_35 : decode cX10_twinOf 35 = .ok (.iconst 2, 1) := dd_get dm_X10_twinOf_0 23 rfl
theorem dX10_twinOf_36 : decode cX10_twinOf 36 = .ok (.if_icmp .ne 46, 3) := dd_get dm_X10_twinOf_0 24 rfl
theorem dX10_twinOf_39 : decode cX10_twinOf 39 = .ok (.iload_n 3, 1) := dd_get dm_X10_twinOf_0 25 rfl
theorem dX10_twinOf_40 : decode cX10_twinOf 40 = .ok (.iload_n 1, 1) := dd_get dm_X10_twinOf_0 26 rfl
theorem dX10_twinOf_41 : decode cX10_twinOf 41 = .ok (.if_icmp .eq 35, 3) := dd_get dm_X10_twinOf_0 27 rfl
theorem dX10_twinOf_44 : decode cX10_twinOf 44 = .ok (.aload_n 0, 1) := dd_get dm_X10_twinOf_0 28 rfl
theorem dX10_twinOf_45 : decode cX10_twinOf 45 = .ok (.iload_n 1, 1) := dd_get dm_X10_twinOf_0 29 rfl
theorem dX10_twinOf_46 : decode cX10_twinOf 46 = .ok (.iload_n 3, 1) := dd_get dm_X10_twinOf_0 30 rfl
theorem dX10_twinOf_47 : decode cX10_twinOf 47 = .ok (.invokevirtual 134, 3) := dd_get dm_X10_twinOf_0 31 rfl
theorem dX10_twinOf_50 : decode cX10_twinOf 50 = .ok (.ldc 102, 2) := dd_get dm_X10_twinOf_0 32 rfl
theorem dX10_twinOf_52 : decode cX10_twinOf 52 = .ok (.if_icmp .eq 24, 3) := dd_get dm_X10_twinOf_0 33 rfl
theorem dX10_twinOf_55 : decode cX10_twinOf 55 = .ok (.iload_n 2, 1) := dd_get dm_X10_twinOf_0 34 rfl
theorem dX10_twinOf_56 : decode cX10_twinOf 56 = .ok (.ifCond .lt 18, 3) := dd_get dm_X10_twinOf_0 35 rfl
theorem dX10_twinOf_59 : decode cX10_twinOf 59 = .ok (.aload_n 0, 1) := dd_get dm_X10_twinOf_0 36 rfl
theorem dX10_twinOf_60 : decode cX10_twinOf 60 = .ok (.iload_n 1, 1) := dd_get dm_X10_twinOf_0 37 rfl
theorem dX10_twinOf_61 : decode cX10_twinOf 61 = .ok (.iload_n 3, 1) := dd_get dm_X10_twinOf_0 38 rfl
theorem dX10_twinOf_62 : decode cX10_twinOf 62 = .ok (.invokevirtual 134, 3) := dd_get dm_X10_twinOf_0 39 rfl
theorem dX10_twinOf_65 : decode cX10_twinOf 65 = .ok (.aload_n 0, 1) := dd_get dm_X10_twinOf_0 40 rfl
theorem dX10_twinOf_66 : decode cX10_twinOf 66 = .ok (.iload_n 1, 1) := dd_get dm_X10_twinOf_0 41 rfl
theorem dX10_twinOf_67 : decode cX10_twinOf 67 = .ok (.iload_n 2, 1) := dd_get dm_X10_twinOf_0 42 rfl
theorem dX10_twinOf_68 : decode cX10_twinOf 68 = .ok (.invokevirtual 134, 3) := dd_get dm_X10_twinOf_0 43 rfl
theorem dX10_twinOf_71 : decode cX10_twinOf 71 = .ok (.if_icmp .ge 5, 3) := dd_get dm_X10_twinOf_0 44 rfl
theorem dX10_twinOf_74 : decode cX10_twinOf 74 = .ok (.iload_n 3, 1) := dd_get dm_X10_twinOf_0 45 rfl
theorem dX10_twinOf_75 : decode cX10_twinOf 75 = .ok (.istore_n 2, 1) := dd_get dm_X10_twinOf_0 46 rfl
theorem dX10_twinOf_76 : decode cX10_twinOf 76 = .ok (.iinc 3 1, 3) := dd_get dm_X10_twinOf_0 47 rfl
theorem dX10_twinOf_79 : decode cX10_twinOf 79 = .ok (.goto (-58), 3) := dd_get dm_X10_twinOf_0 48 rfl
theorem dX10_twinOf_82 : decode cX10_twinOf 82 = .ok (.iload_n 2, 1) := dd_get dm_X10_twinOf_0 49 rfl
theorem dX10_twinOf_83 : decode cX10_twinOf 83 = .ok (.ireturn, 1) := dd_get dm_X10_twinOf_0 50 rfl
theorem dm_X10_twin_0 : (([(0, .aload_n 0, 1), (1, .iload_n 1, 1), (2, .invokevirtual 110, 3), (5, .ifCond .ne 6, 3), (8, .bipush (-2), 2), (10, .ireturn, 1), (11, .aload_n 0, 1), (12, .getfield 39, 3), (15, .iload_n 1, 1), (16, .iaload, 1), (17, .iconst 1, 1), (18, .if_icmp .eq 18, 3), (21, .aload_n 0, 1), (22, .getfield 39, 3), (25, .iload_n 1, 1), (26, .iaload, 1), (27, .iconst 2, 1), (28, .if_icmp .eq 8, 3), (31, .bipush (-5), 2), (33, .goto 8, 3), (36, .aload_n 0, 1), (37, .iload_n 1, 1), (38, .invokevirtual 137, 3), (41, .ireturn, 1)] : List (Nat × Instr × Nat)).all fun q => decide (decode cX10_twin q.1 = .ok (q.2.1, q.2.2))) = true := by decide +kernel
theorem dX10_twin_0 : decode cX10_twin 0 = .ok (.aload_n 0, 1) := dd_get dm_X10_twin_0 0 rfl
theorem dX10_twin_1 : decode cX10_twin 1 = .ok (.iload_n 1, 1) := dd_get dm_X10_twin_0 1 rfl
theorem dX10_twin_2 : decode cX10_twin 2 = .ok (.invokevirtual 110, 3) := dd_get dm_X10_twin_0 2 rfl
theorem dX10_twin_5 : decode cX10_twin 5 = .ok (.ifCond .ne 6, 3) := dd_get dm_X10_twin_0 3 rfl
theorem dX10_twin_8 : decode cX10_twin 8 = .ok (.bipush (-2), 2) := dd_get dm_X10_twin_0 4 rfl
theorem dX10_twin_10 : decode cX10_twin 10 = .ok (.ireturn, 1) := dd_get dm_X10_twin_0 5 rfl
theorem dX10_twin_11 : decode cX10_twin 11 = .ok (.aload_n 0, 1) := dd_get dm_X10_twin_0 6 rfl
theorem dX10_twin_12 : decode cX10_twin 12 = .ok (.getfield 39, 3) := dd_get dm_X10_twin_0 7 rfl
theorem dX10_twin_15 : decode cX10_twin 15 = .ok (.iload_n 1, 1) := dd_get dm_X10_twin_0 8 rfl
theorem dX10_twin_16 : decode cX10_twin 16 = .ok (.iaload, 1) := dd_get dm_X10_twin_0 9 rfl
theorem dX10_twin_17 : decode cX10_twin 17 = .ok (.iconst 1, 1) := dd_get dm_X10_twin_0 10 rfl
theorem dX10_twin_18 : decode cX10_twin 18 = .ok (.if_icmp .eq 18, 3) := dd_get dm_X10_twin_0 11 rfl
theorem dX10_twin_21 : decode cX10_twin 21 = .ok (.aload_n 0, 1) := dd_get dm_X10_twin_0 12 rfl
theorem dX10_twin_22 : decode cX10_twin 22 = .ok (.getfield 39, 3) := dd_get dm_X10_twin_0 13 rfl
theorem dX10_twin_25 : decode cX10_twin 25 = .ok (.iload_n 1, 1) := dd_get dm_X10_twin_0 14 rfl
theorem dX10_twin_26 : decode cX10_twin 26 = .ok (.iaload, 1) := dd_get dm_X10_twin_0 15 rfl
theorem dX10_twin_27 : decode cX10_twin 27 = .ok (.iconst 2, 1) := dd_get dm_X10_twin_0 16 rfl
theorem dX10_twin_28 : decode cX10_twin 28 = .ok (.if_icmp .eq 8, 3) := dd_get dm_X10_twin_0 17 rfl
theorem dX10_twin_31 : decode cX10_twin 31 = .ok (.bipush (-5), 2) := dd_get dm_X10_twin_0 18 rfl
theorem dX10_twin_33 : decode cX10_twin 33 = .ok (.goto 8, 3) := dd_get dm_X10_twin_0 19 rfl
theorem dX10_twin_36 : decode cX10_twin 36 = .ok (.aload_n 0, 1) := dd_get dm_X10_twin_0 20 rfl
theorem dX10_twin_37 : decode cX10_twin 37 = .ok (.iload_n 1, 1) := dd_get dm_X10_twin_0 21 rfl
theorem dX10_twin_38 : decode cX10_twin 38 = .ok (.invokevirtual 137, 3) := dd_get dm_X10_twin_0 22 rfl
theorem dX10_twin_41 : decode cX10_twin 41 = .ok (.ireturn, 1) := dd_get dm_X10_twin_0 23 rfl
theorem dm_X10_of_0 : (([(0, .aload_n 0, 1), (1, .iload_n 1, 1), (2, .invokevirtual 110, 3), (5, .ifCond .eq 12, 3), (8, .iload_n 2, 1), (9, .ifCond .lt 8, 3), (12, .iload_n 2, 1), (13, .iconst 4, 1), (14, .if_icmp .le 6, 3), (17, .ldc 141, 2), (19, .ireturn, 1), (20, .iload_n 2, 1), (21, .ifCond .ne 12, 3), (24, .aload_n 0, 1), (25, .getfield 36, 3), (28, .iload_n 1, 1), (29, .iaload, 1), (30, .goto 68, 3), (33, .iload_n 2, 1), (34, .iconst 1, 1), (35, .if_icmp .ne 12, 3), (38, .aload_n 0, 1), (39, .getfield 39, 3), (42, .iload_n 1, 1), (43, .iaload, 1), (44, .goto 54, 3), (47, .iload_n 2, 1), (48, .iconst 2, 1), (49, .if_icmp .ne 21, 3), (52, .aload_n 0, 1), (53, .getfield 39, 3), (56, .iload_n 1, 1), (57, .iaload, 1), (58, .iconst 4, 1), (59, .if_icmp .ne 7, 3), (62, .iconst 2, 1), (63, .goto 35, 3), (66, .iconst 1, 1), (67, .goto 31, 3), (70, .iload_n 2, 1), (71, .iconst 3, 1), (72, .if_icmp .ne 20, 3), (75, .aload_n 0, 1), (76, .getfield 45, 3), (79, .iload_n 1, 1), (80, .baload, 1), (81, .ifCond .eq 7, 3), (84, .iconst 1, 1), (85, .goto 13, 3), (88, .iconst 0, 1), (89, .goto 9, 3), (92, .aload_n 0, 1), (93, .getfield 48, 3), (96, .iload_n 1, 1), (97, .iaload, 1), (98, .ireturn, 1)] : List (Nat × Instr × Nat)).all fun q => decide (decode cX10_of q.1 = .ok (q.2.1, q.2.2))) = true := by decide +kernel
theorem dX10_of_0 : decode cX10_of 0 = .ok (.aload_n 0, 1) := dd_get dm_X10_of_0 0 rfl
theorem dX10_of_1 : decode cX10_of 1 = .ok (.iload_n 1, 1) := dd_get dm_X10_of_0 1 rfl
theorem dX10_of_2 : decode cX10_of 2 = .ok (.invokevirtual 110, 3) := dd_get dm_X10_of_0 2 rfl
theorem dX10_of_5 : decode cX10_of 5 = .ok (.ifCond .eq 12, 3) := dd_get dm_X10_of_0 3 rfl
theorem dX10_of_8 : decode cX10_of 8 = .ok (.iload_n 2, 1) := dd_get dm_X10_of_0 4 rfl
theorem dX10_of_9 : decode cX10_of 9 = .ok (.ifCond .lt 8, 3) := dd_get dm_X10_of_0 5 rfl
theorem dX10_of_12 : decode cX10_of 12 = .ok (.iload_n 2, 1) := dd_get dm_X10_of_0 6 rfl
theorem dX10_of_13 : decode cX10_of 13 = .ok (.iconst 4, 1) := dd_get dm_X10_of_0 7 rfl
theorem dX10_of_14 : decode cX10_of 14 = .ok (.if_icmp .le 6, 3) := dd_get dm_X10_of_0 8 rfl
theorem dX10_of_17 : decode cX10_of 17 = .ok (.ldc 141, 2) := dd_get dm_X10_of_0 9 rfl
theorem dX10_of_19 : decode cX10_of 19 = .ok (.ireturn, 1) := dd_get dm_X10_of_0 10 rfl
theorem dX10_of_20 : decode cX10_of 20 = .ok (.iload_n 2, 1) := dd_get dm_X10_of_0 11 rfl
theorem dX10_of_21 : decode cX10_of 21 = .ok (.ifCond .ne 12, 3) := dd_get dm_X10_of_0 12 rfl
theorem dX10_of_24 : decode cX10_of 24 = .ok (.aload_n 0, 1) := dd_get dm_X10_of_0 13 rfl
theorem dX10_of_25 : decode cX10_of 25 = .ok (.getfield 36, 3) := dd_get dm_X10_of_0 14 rfl
theorem dX10_of_28 : decode cX10_of 28 = .ok (.iload_n 1, 1) := dd_get dm_X10_of_0 15 rfl
theorem dX10_of_29 : decode cX10_of 29 = .ok (.iaload, 1) := dd_get dm_X10_of_0 16 rfl
theorem dX10_of_30 : decode cX10_of 30 = .ok (.goto 68, 3) := dd_get dm_X10_of_0 17 rfl
theorem dX10_of_33 : decode cX10_of 33 = .ok (.iload_n 2, 1) := dd_get dm_X10_of_0 18 rfl
theorem dX10_of_34 : decode cX10_of 34 = .ok (.iconst 1, 1) := dd_get dm_X10_of_0 19 rfl
theorem dX10_of_35 : decode cX10_of 35 = .ok (.if_icmp .ne 12, 3) := dd_get dm_X10_of_0 20 rfl
theorem dX10_of_38 : decode cX10_of 38 = .ok (.aload_n 0, 1) := dd_get dm_X10_of_0 21 rfl
theorem dX10_of_39 : decode cX10_of 39 = .ok (.getfield 39, 3) := dd_get dm_X10_of_0 22 rfl
theorem dX10_of_42 : decode cX10_of 42 = .ok (.iload_n 1, 1) := dd_get dm_X10_of_0 23 rfl
theorem dX10_of_43 : decode cX10_of 43 = .ok (.iaload, 1) := dd_get dm_X10_of_0 24 rfl
theorem dX10_of_44 : decode cX10_of 44 = .ok (.goto 54, 3) := dd_get dm_X10_of_0 25 rfl
theorem dX10_of_47 : decode cX10_of 47 = .ok (.iload_n 2, 1) := dd_get dm_X10_of_0 26 rfl
theorem dX10_of_48 : decode cX10_of 48 = .ok (.iconst 2, 1) := dd_get dm_X10_of_0 27 rfl
theorem dX10_of_49 : decode cX10_of 49 = .ok (.if_icmp .ne 21, 3) := dd_get dm_X10_of_0 28 rfl
theorem dX10_of_52 : decode cX10_of 52 = .ok (.aload_n 0, 1) := dd_get dm_X10_of_0 29 rfl
theorem dX10_of_53 : decode cX10_of 53 = .ok (.getfield 39, 3) := dd_get dm_X10_of_0 30 rfl
theorem dX10_of_56 : decode cX10_of 56 = .ok (.iload_n 1, 1) := dd_get dm_X10_of_0 31 rfl
theorem dX10_of_57 : decode cX10_of 57 = .ok (.iaload, 1) := dd_get dm_X10_of_0 32 rfl
theorem dX10_of_58 : decode cX10_of 58 = .ok (.iconst 4, 1) := dd_get dm_X10_of_0 33 rfl
theorem dX10_of_59 : decode cX10_of 59 = .ok (.if_icmp .ne 7, 3) := dd_get dm_X10_of_0 34 rfl
theorem dX10_of_62 : decode cX10_of 62 = .ok (.iconst 2, 1) := dd_get dm_X10_of_0 35 rfl
theorem dX10_of_63 : decode cX10_of 63 = .ok (.goto 35, 3) := dd_get dm_X10_of_0 36 rfl
theorem dX10_of_66 : decode cX10_of 66 = .ok (.iconst 1, 1) := dd_get dm_X10_of_0 37 rfl
theorem dX10_of_67 : decode cX10_of 67 = .ok (.goto 31, 3) := dd_get dm_X10_of_0 38 rfl
theorem dX10_of_70 : decode cX10_of 70 = .ok (.iload_n 2, 1) := dd_get dm_X10_of_0 39 rfl
theorem dX10_of_71 : decode cX10_of 71 = .ok (.iconst 3, 1) := dd_get dm_X10_of_0 40 rfl
theorem dX10_of_72 : decode cX10_of 72 = .ok (.if_icmp .ne 20, 3) := dd_get dm_X10_of_0 41 rfl
theorem dX10_of_75 : decode cX10_of 75 = .ok (.aload_n 0, 1) := dd_get dm_X10_of_0 42 rfl
theorem dX10_of_76 : decode cX10_of 76 = .ok (.getfield 45, 3) := dd_get dm_X10_of_0 43 rfl
theorem dX10_of_79 : decode cX10_of 79 = .ok (.iload_n 1, 1) := dd_get dm_X10_of_0 44 rfl
theorem dX10_of_80 : decode cX10_of 80 = .ok (.baload, 1) := dd_get dm_X10_of_0 45 rfl
theorem dX10_of_81 : decode cX10_of 81 = .ok (.ifCond .eq 7, 3) := dd_get dm_X10_of_0 46 rfl
theorem dX10_of_84 : decode cX10_of 84 = .ok (.iconst 1, 1) := dd_get dm_X10_of_0 47 rfl
theorem dX10_of_85 : decode cX10_of 85 = .ok (.goto 13, 3) := dd_get dm_X10_of_0 48 rfl
theorem dX10_of_88 : decode cX10_of 88 = .ok (.iconst 0, 1) := dd_get dm_X10_of_0 49 rfl
theorem dX10_of_89 : decode cX10_of 89 = .ok (.goto 9, 3) := dd_get dm_X10_of_0 50 rfl
theorem dX10_of_92 : decode cX10_of 92 = .ok (.aload_n 0, 1) := dd_get dm_X10_of_0 51 rfl
theorem dX10_of_93 : decode cX10_of 93 = .ok (.getfield 48, 3) := dd_get dm_X10_of_0 52 rfl
theorem dX10_of_96 : decode cX10_of 96 = .ok (.iload_n 1, 1) := dd_get dm_X10_of_0 53 rfl
theorem dX10_of_97 : decode cX10_of 97 = .ok (.iaload, 1) := dd_get dm_X10_of_0 54 rfl
theorem dX10_of_98 : decode cX10_of 98 = .ok (.ireturn, 1) := dd_get dm_X10_of_0 55 rfl
theorem dm_X10_many_0 : (([(0, .iconst 0, 1), (1, .istore_n 2, 1), (2, .iload_n 1, 1), (3, .tableswitch 111 0 5 #[37, 42, 47, 52, 57, 62], 37), (40, .aload_n 0, 1), (41, .getfield 103, 3), (44, .ireturn, 1), (45, .aload_n 0, 1), (46, .getfield 107, 3), (49, .ireturn, 1), (50, .aload_n 0, 1), (51, .invokevirtual 142, 3), (54, .ireturn, 1), (55, .aload_n 0, 1), (56, .getfield 146, 3), (59, .ireturn, 1), (60, .aload_n 0, 1), (61, .getfield 117, 3), (64, .ireturn, 1), (65, .iconst 0, 1), (66, .istore_n 3, 1), (67, .iload_n 3, 1), (68, .aload_n 0, 1), (69, .getfield 107, 3), (72, .if_icmp .ge 40, 3), (75, .iload_n 2, 1), (76, .aload_n 0, 1), (77, .getfield 45, 3), (80, .iload_n 3, 1), (81, .baload, 1), (82, .ifCond .eq 7, 3), (85, .iconst 0, 1), (86, .goto 18, 3), (89, .aload_n 0, 1), (90, .getfield 39, 3), (93, .iload_n 3, 1), (94, .iaload, 1), (95, .iconst 4, 1), (96, .if_icmp .ne 7, 3), (99, .iconst 2, 1), (100, .goto 4, 3), (103, .iconst 1, 1), (104, .iadd, 1), (105, .istore_n 2, 1), (106, .iinc 3 1, 3), (109, .goto (-42), 3), (112, .iload_n 2, 1), (113, .ireturn, 1), (114, .iconst (-1), 1), (115, .ireturn, 1)] : List (Nat × Instr × Nat)).all fun q => decide (decode cX10_many q.1 = .ok (q.2.1, q.2.2))) = true := by decide +kernel
theorem dX10_many_0 : decode cX10_many 0 = .ok (.iconst 0, 1) := dd_get dm_X10_many_0 0 rfl
theorem dX10_many_1 : decode cX10_many 1 = .ok (.istore_n 2, 1) := dd_get dm_X10_many_0 1 rfl
theorem dX10_many_2 : decode cX10_many 2 = .ok (.iload_n 1, 1) := dd_get dm_X10_many_0 2 rfl
theorem dX10_many_3 : decode cX10_many 3 = .ok (.tableswitch 111 0 5 #[37, 42, 47, 52, 57, 62], 37) := dd_get dm_X10_many_0 3 rfl
theorem dX10_many_40 : decode cX10_many 40 = .ok (.aload_n 0, 1) := dd_get dm_X10_many_0 4 rfl
theorem dX10_many_41 : decode cX10_many 41 = .ok (.getfield 103, 3) := dd_get dm_X10_many_0 5 rfl
theorem dX10_many_44 : decode cX10_many 44 = .ok (.ireturn, 1) := dd_get dm_X10_many_0 6 rfl
theorem dX10_many_45 : decode cX10_many 45 = .ok (.aload_n 0, 1) := dd_get dm_X10_many_0 7 rfl
theorem dX10_many_46 : decode cX10_many 46 = .ok (.getfield 107, 3) := dd_get dm_X10_many_0 8 rfl
theorem dX10_many_49 : decode cX10_many 49 = .ok (.ireturn, 1) := dd_get dm_X10_many_0 9 rfl
theorem dX10_many_50 : decode cX10_many 50 = .ok (.aload_n 0, 1) := dd_get dm_X10_many_0 10 rfl
theorem dX10_many_51 : decode cX10_many 51 = .ok (.invokevirtual 142, 3) := dd_get dm_X10_many_0 11 rfl
theorem dX10_many_54 : decode cX10_many 54 = .ok (.ireturn, 1) := dd_get dm_X10_many_0 12 rfl
theorem dX10_many_55 : decode cX10_many 55 = .ok (.aload_n 0, 1) := dd_get dm_X10_many_0 13 rfl
theorem dX10_many_56 : decode cX10_many 56 = .ok (.getfield 146, 3) := dd_get dm_X10_many_0 14 rfl
theorem dX10_many_59 : decode cX10_many 59 = .ok (.ireturn, 1) := dd_get dm_X10_many_0 15 rfl
theorem dX10_many_60 : decode cX10_many 60 = .ok (.aload_n 0, 1) := dd_get dm_X10_many_0 16 rfl
theorem dX10_many_61 : decode cX10_many 61 = .ok (.getfield 117, 3) := dd_get dm_X10_many_0 17 rfl
theorem dX10_many_64 : decode cX10_many 64 = .ok (.ireturn, 1) := dd_get dm_X10_many_0 18 rfl
theorem dX10_many_65 : decode cX10_many 65 = .ok (.iconst 0, 1) := dd_get dm_X10_many_0 19 rfl
theorem dX10_many_66 : decode cX10_many 66 = .ok (.istore_n 3, 1) := dd_get dm_X10_many_0 20 rfl
theorem dX10_many_67 : decode cX10_many 67 = .ok (.iload_n 3, 1) := dd_get dm_X10_many_0 21 rfl
theorem dX10_many_68 : decode cX10_many 68 = .ok (.aload_n 0, 1) := dd_get dm_X10_many_0 22 rfl
theorem dX10_many_69 : decode cX10_many 69 = .ok (.getfield 107, 3) := dd_get dm_X10_many_0 23 rfl
theorem dX10_many_72 : decode cX10_many 72 = .ok (.if_icmp .ge 40, 3) := dd_get dm_X10_many_0 24 rfl
theorem dX10_many_75 : decode cX10_many 75 = .ok (.iload_n 2, 1) := dd_get dm_X10_many_0 25 rfl
theorem dX10_many_76 : decode cX10_many 76 = .ok (.aload_n 0, 1) := dd_get dm_X10_many_0 26 rfl
theorem dX10_many_77 : decode cX10_many 77 = .ok (.getfield 45, 3) := dd_get dm_X10_many_0 27 rfl
theorem dX10_many_80 : decode cX10_many 80 = .ok (.iload_n 3, 1) := dd_get dm_X10_many_0 28 rfl
theorem dX10_many_81 : decode cX10_many 81 = .ok (.baload, 1) := dd_get dm_X10_many_0 29 rfl
theorem dX10_many_82 : decode cX10_many 82 = .ok (.ifCond .eq 7, 3) := dd_get dm_X10_many_0 30 rfl
theorem dX10_many_85 : decode cX10_many 85 = .ok (.iconst 0, 1) := dd_get dm_X10_many_0 31 rfl
theorem dX10_many_86 : decode cX10_many 86 = .ok (.goto 18, 3) := dd_get dm_X10_many_0 32 rfl
theorem dX10_many_89 : decode cX10_many 89 = .ok (.aload_n 0, 1) := dd_get dm_X10_many_0 33 rfl
theorem dX10_many_90 : decode cX10_many 90 = .ok (.getfield 39, 3) := dd_get dm_X10_many_0 34 rfl
theorem dX10_many_93 : decode cX10_many 93 = .ok (.iload_n 3, 1) := dd_get dm_X10_many_0 35 rfl
theorem dX10_many_94 : decode cX10_many 94 = .ok (.iaload, 1) := dd_get dm_X10_many_0 36 rfl
theorem dX10_many_95 : decode cX10_many 95 = .ok (.iconst 4, 1) := dd_get dm_X10_many_0 37 rfl
theorem dX10_many_96 : decode cX10_many 96 = .ok (.if_icmp .ne 7, 3) := dd_get dm_X10_many_0 38 rfl
theorem dX10_many_99 : decode cX10_many 99 = .ok (.iconst 2, 1) := dd_get dm_X10_many_0 39 rfl
theorem dX10_many_100 : decode cX10_many 100 = .ok (.goto 4, 3) := dd_get dm_X10_many_0 40 rfl
theorem dX10_many_103 : decode cX10_many 103 = .ok (.iconst 1, 1) := dd_get dm_X10_many_0 41 rfl
theorem dX10_many_104 : decode cX10_many 104 = .ok (.iadd, 1) := dd_get dm_X10_many_0 42 rfl
theorem dX10_many_105 : decode cX10_many 105 = .ok (.istore_n 2, 1) := dd_get dm_X10_many_0 43 rfl
theorem dX10_many_106 : decode cX10_many 106 = .ok (.iinc 3 1, 3) := dd_get dm_X10_many_0 44 rfl
theorem dX10_many_109 : decode cX10_many 109 = .ok (.goto (-42), 3) := dd_get dm_X10_many_0 45 rfl
theorem dX10_many_112 : decode cX10_many 112 = .ok (.iload_n 2, 1) := dd_get dm_X10_many_0 46 rfl
theorem dX10_many_113 : decode cX10_many 113 = .ok (.ireturn, 1) := dd_get dm_X10_many_0 47 rfl
theorem dX10_many_114 : decode cX10_many 114 = .ok (.iconst (-1), 1) := dd_get dm_X10_many_0 48 rfl
theorem dX10_many_115 : decode cX10_many 115 = .ok (.ireturn, 1) := dd_get dm_X10_many_0 49 rfl
theorem dm_X10_lengthOf_0 : (([(0, .iconst 0, 1), (1, .istore_n 3, 1), (2, .iconst 0, 1), (3, .istore 4, 2), (5, .iload 4, 2), (7, .iload_n 2, 1), (8, .if_icmp .ge 50, 3), (11, .aload_n 0, 1), (12, .aload_n 1, 1), (13, .iload 4, 2), (15, .iaload, 1), (16, .aload_n 1, 1), (17, .iload 4, 2), (19, .iconst 1, 1), (20, .iadd, 1), (21, .iload_n 2, 1), (22, .irem, 1), (23, .iaload, 1), (24, .invokevirtual 134, 3), (27, .istore 5, 2), (29, .iload 5, 2), (31, .ldc 102, 2), (33, .if_icmp .eq 9, 3), (36, .iload_n 3, 1), (37, .ldc 102, 2), (39, .if_icmp .ne 8, 3), (42, .ldc 102, 2), (44, .goto 7, 3), (47, .iload_n 3, 1), (48, .iload 5, 2), (50, .iadd, 1), (51, .istore_n 3, 1), (52, .iinc 4 1, 3), (55, .goto (-50), 3), (58, .iload_n 3, 1), (59, .ireturn, 1)] : List (Nat × Instr × Nat)).all fun q => decide (decode cX10_lengthOf q.1 = .ok (q.2.1, q.2.2))) = true := by decide +kernel
theorem dX10_lengthOf_0 : decode cX10_lengthOf 0 = .ok (.iconst 0, 1) := dd_get dm_X10_lengthOf_0 0 rfl
theorem dX10_lengthOf_1 : decode cX10_lengthOf 1 = .ok (.istore_n 3, 1) := dd_get dm_X10_lengthOf_0 1 rfl
theorem dX10_lengthOf_2 : decode cX10_lengthOf 2 = .ok (.iconst 0, 1) := dd_get dm_X10_lengthOf_0 2 rfl
theorem dX10_lengthOf_3 : decode cX10_lengthOf 3 = .ok (.istore 4, 2) := dd_get dm_X10_lengthOf_0 3 rfl
theorem dX10_lengthOf_5 : decode cX10_lengthOf 5 = .ok (.iload 4, 2) := dd_get dm_X10_lengthOf_0 4 rfl
theorem dX10_lengthOf_7 : decode cX10_lengthOf 7 = .ok (.iload_n 2, 1) := dd_get dm_X10_lengthOf_0 5 rfl
theorem dX10_lengthOf_8 : decode cX10_lengthOf 8 = .ok (.if_icmp .ge 50, 3) := dd_get dm_X10_lengthOf_0 6 rfl
theorem dX10_lengthOf_11 : decode cX10_lengthOf 11 = .ok (.aload_n 0, 1) := dd_get dm_X10_lengthOf_0 7 rfl
theorem dX10_lengthOf_12 : decode cX10_lengthOf 12 = .ok (.aload_n 1, 1) := dd_get dm_X10_lengthOf_0 8 rfl
theorem dX10_lengthOf_13 : decode cX10_lengthOf 13 = .ok (.iload 4, 2) := dd_get dm_X10_lengthOf_0 9 rfl
theorem dX10_lengthOf_15 : decode cX10_lengthOf 15 = .ok (.iaload, 1) := dd_get dm_X10_lengthOf_0 10 rfl
theorem dX10_lengthOf_16 : decode cX10_lengthOf 16 = .ok (.aload_n 1, 1) := dd_get dm_X10_lengthOf_0 11 rfl
theorem dX10_lengthOf_17 : decode cX10_lengthOf 17 = .ok (.iload 4, 2) := dd_get dm_X10_lengthOf_0 12 rfl
theorem dX10_lengthOf_19 : decode cX10_lengthOf 19 = .ok (.iconst 1, 1) := dd_get dm_X10_lengthOf_0 13 rfl
theorem dX10_lengthOf_20 : decode cX10_lengthOf 20 = .ok (.iadd, 1) := dd_get dm_X10_lengthOf_0 14 rfl
theorem dX10_lengthOf_21 : decode cX10_lengthOf 21 = .ok (.iload_n 2, 1) := dd_get dm_X10_lengthOf_0 15 rfl
theorem dX10_lengthOf_22 : decode cX10_lengthOf 22 = .ok (.irem, 1) := dd_get dm_X10_lengthOf_0 16 rfl
theorem dX10_lengthOf_23 : decode cX10_lengthOf 23 = .ok (.iaload, 1) := dd_get dm_X10_lengthOf_0 17 rfl
theorem dX10_lengthOf_24 : decode cX10_lengthOf 24 = .ok (.invokevirtual 134, 3) := dd_get dm_X10_lengthOf_0 18 rfl
theorem dX10_lengthOf_27 : decode cX10_lengthOf 27 = .ok (.istore 5, 2) := dd_get dm_X10_lengthOf_0 19 rfl
theorem dX10_lengthOf_29 : decode cX10_lengthOf 29 = .ok (.iload 5, 2) := dd_get dm_X10_lengthOf_0 20 rfl
theorem dX10_lengthOf_31 : decode cX10_lengthOf 31 = .ok (.ldc 102, 2) := dd_get dm_X10_lengthOf_0 21 rfl
theorem dX10_lengthOf_33 : decode cX10_lengthOf 33 = .ok (.if_icmp .eq 9, 3) := dd_get dm_X10_lengthOf_0 22 rfl
theorem dX10_lengthOf_36 : decode cX10_lengthOf 36 = .ok (.iload_n 3, 1) := dd_get dm_X10_lengthOf_0 23 rfl
theorem dX10_lengthOf_37 : decode cX10_lengthOf 37 = .ok (.ldc 102, 2) := dd_get dm_X10_lengthOf_0 24 rfl
theorem dX10_lengthOf_39 : decode cX10_lengthOf 39 = .ok (.if_icmp .ne 8, 3) := dd_get dm_X10_lengthOf_0 25 rfl
theorem dX10_lengthOf_42 : decode cX10_lengthOf 42 = .ok (.ldc 102, 2) := dd_get dm_X10_lengthOf_0 26 rfl
theorem dX10_lengthOf_44 : decode cX10_lengthOf 44 = .ok (.goto 7, 3) := dd_get dm_X10_lengthOf_0 27 rfl
theorem dX10_lengthOf_47 : decode cX10_lengthOf 47 = .ok (.iload_n 3, 1) := dd_get dm_X10_lengthOf_0 28 rfl
theorem dX10_lengthOf_48 : decode cX10_lengthOf 48 = .ok (.iload 5, 2) := dd_get dm_X10_lengthOf_0 29 rfl
theorem dX10_lengthOf_50 : decode cX10_lengthOf 50 = .ok (.iadd, 1) := dd_get dm_X10_lengthOf_0 30 rfl
theorem dX10_lengthOf_51 : decode cX10_lengthOf 51 = .ok (.istore_n 3, 1) := dd_get dm_X10_lengthOf_0 31 rfl
theorem dX10_lengthOf_52 : decode cX10_lengthOf 52 = .ok (.iinc 4 1, 3) := dd_get dm_X10_lengthOf_0 32 rfl
theorem dX10_lengthOf_55 : decode cX10_lengthOf 55 = .ok (.goto (-50), 3) := dd_get dm_X10_lengthOf_0 33 rfl
theorem dX10_lengthOf_58 : decode cX10_lengthOf 58 = .ok (.iload_n 3, 1) := dd_get dm_X10_lengthOf_0 34 rfl
theorem dX10_lengthOf_59 : decode cX10_lengthOf 59 = .ok (.ireturn, 1) := dd_get dm_X10_lengthOf_0 35 rfl
theorem dm_X10_placeOf_0 : (([(0, .iconst (-1), 1), (1, .istore_n 3, 1), (2, .iconst 0, 1), (3, .istore 4, 2), (5, .iload 4, 2), (7, .iload_n 1, 1), (8, .if_icmp .ge 24, 3), (11, .aload_n 0, 1), (12, .iload 4, 2), (14, .iaload, 1), (15, .iload_n 2, 1), (16, .if_icmp .ne 8, 3), (19, .iload 4, 2), (21, .goto 4, 3), (24, .iload_n 3, 1), (25, .istore_n 3, 1), (26, .iinc 4 1, 3), (29, .goto (-24), 3), (32, .iload_n 3, 1), (33, .ireturn, 1)] : List (Nat × Instr × Nat)).all fun q => decide (decode cX10_placeOf q.1 = .ok (q.2.1, q.2.2))) = true := by decide +kernel
theorem dX10_placeOf_0 : decode cX10_placeOf 0 = .ok (.iconst (-1), 1) := dd_get dm_X10_placeOf_0 0 rfl
theorem dX10_placeOf_1 : decode cX10_placeOf 1 = .ok (.istore_n 3, 1) := dd_get dm_X10_placeOf_0 1 rfl
theorem dX10_placeOf_2 : decode cX10_placeOf 2 = .ok (.iconst 0, 1) := dd_get dm_X10_placeOf_0 2 rfl
theorem dX10_placeOf_3 : decode cX10_placeOf 3 = .ok (.istore 4, 2) := dd_get dm_X10_placeOf_0 3 rfl
theorem dX10_placeOf_5 : decode cX10_placeOf 5 = .ok (.iload 4, 2) := dd_get dm_X10_placeOf_0 4 rfl
theorem dX10_placeOf_7 : decode cX10_placeOf 7 = .ok (.iload_n 1, 1) := dd_get dm_X10_placeOf_0 5 rfl
theorem dX10_placeOf_8 : decode cX10_placeOf 8 = .ok (.if_icmp .ge 24, 3) := dd_get dm_X10_placeOf_0 6 rfl
theorem dX10_placeOf_11 : decode cX10_placeOf 11 = .ok (.aload_n 0, 1) := dd_get dm_X10_placeOf_0 7 rfl
theorem dX10_placeOf_12 : decode cX10_placeOf 12 = .ok (.iload 4, 2) := dd_get dm_X10_placeOf_0 8 rfl
theorem dX10_placeOf_14 : decode cX10_placeOf 14 = .ok (.iaload, 1) := dd_get dm_X10_placeOf_0 9 rfl
theorem dX10_placeOf_15 : decode cX10_placeOf 15 = .ok (.iload_n 2, 1) := dd_get dm_X10_placeOf_0 10 rfl
theorem dX10_placeOf_16 : decode cX10_placeOf 16 = .ok (.if_icmp .ne 8, 3) := dd_get dm_X10_placeOf_0 11 rfl
theorem dX10_placeOf_19 : decode cX10_placeOf 19 = .ok (.iload 4, 2) := dd_get dm_X10_placeOf_0 12 rfl
theorem dX10_placeOf_21 : decode cX10_placeOf 21 = .ok (.goto 4, 3) := dd_get dm_X10_placeOf_0 13 rfl
theorem dX10_placeOf_24 : decode cX10_placeOf 24 = .ok (.iload_n 3, 1) := dd_get dm_X10_placeOf_0 14 rfl
theorem dX10_placeOf_25 : decode cX10_placeOf 25 = .ok (.istore_n 3, 1) := dd_get dm_X10_placeOf_0 15 rfl
theorem dX10_placeOf_26 : decode cX10_placeOf 26 = .ok (.iinc 4 1, 3) := dd_get dm_X10_placeOf_0 16 rfl
theorem dX10_placeOf_29 : decode cX10_placeOf 29 = .ok (.goto (-24), 3) := dd_get dm_X10_placeOf_0 17 rfl
theorem dX10_placeOf_32 : decode cX10_placeOf 32 = .ok (.iload_n 3, 1) := dd_get dm_X10_placeOf_0 18 rfl
theorem dX10_placeOf_33 : decode cX10_placeOf 33 = .ok (.ireturn, 1) := dd_get dm_X10_placeOf_0 19 rfl
theorem dm_X10_areBeside_0 : (([(0, .aload_n 0, 1), (1, .iload_n 1, 1), (2, .iload_n 2, 1), (3, .invokestatic 149, 3), (6, .aload_n 0, 1), (7, .iload_n 1, 1), (8, .iload_n 3, 1), (9, .invokestatic 149, 3), (12, .isub, 1), (13, .istore 4, 2), (15, .iload 4, 2), (17, .iconst 1, 1), (18, .if_icmp .eq 25, 3), (21, .iload 4, 2), (23, .iconst (-1), 1), (24, .if_icmp .eq 19, 3), (27, .iload 4, 2), (29, .iload_n 1, 1), (30, .iconst 1, 1), (31, .isub, 1), (32, .if_icmp .eq 11, 3), (35, .iload 4, 2), (37, .iconst 1, 1), (38, .iload_n 1, 1), (39, .isub, 1), (40, .if_icmp .ne 7, 3), (43, .iconst 1, 1), (44, .goto 4, 3), (47, .iconst 0, 1), (48, .ireturn, 1)] : List (Nat × Instr × Nat)).all fun q => decide (decode cX10_areBeside q.1 = .ok (q.2.1, q.2.2))) = true := by decide +kernel
theorem dX10_areBeside_0 : decode cX10_areBeside 0 = .ok (.aload_n 0, 1) := dd_get dm_X10_areBeside_0 0 rfl
theorem dX10_areBeside_1 : decode cX10_areBeside 1 = .ok (.iload_n 1, 1) := dd_get dm_X10_areBeside_0 1 rfl
theorem dX10_areBeside_2 : decode cX10_areBeside 2 = .ok (.iload_n 2, 1) := dd_get dm_X10_areBeside_0 2 rfl
theorem dX10_areBeside_3 : decode cX10_areBeside 3 = .ok (.invokestatic 149, 3) := dd_get dm_X10_areBeside_0 3 rfl
theorem dX10_areBeside_6 : decode cX10_areBeside 6 = .ok (.aload_n 0, 1) := dd_get dm_X10_areBeside_0 4 rfl
theorem dX10_areBeside_7 : decode cX10_areBeside 7 = .ok (.iload_n 1, 1) := dd_get dm_X10_areBeside_0 5 rfl
theorem dX10_areBeside_8 : decode cX10_areBeside 8 = .ok (.iload_n 3, 1) := dd_get dm_X10_areBeside_0 6 rfl
theorem dX10_areBeside_9 : decode cX10_areBeside 9 = .ok (.invokestatic 149, 3) := dd_get dm_X10_areBeside_0 7 rfl
theorem dX10_areBeside_12 : decode cX10_areBeside 12 = .ok (.isub, 1) := dd_get dm_X10_areBeside_0 8 rfl
theorem dX10_areBeside_13 : decode cX10_areBeside 13 = .ok (.istore 4, 2) := dd_get dm_X10_areBeside_0 9 rfl
theorem dX10_areBeside_15 : decode cX10_areBeside 15 = .ok (.iload 4, 2) := dd_get dm_X10_areBeside_0 10 rfl
theorem dX10_areBeside_17 : decode cX10_areBeside 17 = .ok (.iconst 1, 1) := dd_get dm_X10_areBeside_0 11 rfl
theorem dX10_areBeside_18 : decode cX10_areBeside 18 = .ok (.if_icmp .eq 25, 3) := dd_get dm_X10_areBeside_0 12 rfl
theorem dX10_areBeside_21 : decode cX10_areBeside 21 = .ok (.iload 4, 2) := dd_get dm_X10_areBeside_0 13 rfl
theorem dX10_areBeside_23 : decode cX10_areBeside 23 = .ok (.iconst (-1), 1) := dd_get dm_X10_areBeside_0 14 rfl
theorem dX10_areBeside_24 : decode cX10_areBeside 24 = .ok (.if_icmp .eq 19, 3) := dd_get dm_X10_areBeside_0 15 rfl
theorem dX10_areBeside_27 : decode cX10_areBeside 27 = .ok (.iload 4, 2) := dd_get dm_X10_areBeside_0 16 rfl
theorem dX10_areBeside_29 : decode cX10_areBeside 29 = .ok (.iload_n 1, 1) := dd_get dm_X10_areBeside_0 17 rfl
theorem dX10_areBeside_30 : decode cX10_areBeside 30 = .ok (.iconst 1, 1) := dd_get dm_X10_areBeside_0 18 rfl
theorem dX10_areBeside_31 : decode cX10_areBeside 31 = .ok (.isub, 1) := dd_get dm_X10_areBeside_0 19 rfl
theorem dX10_areBeside_32 : decode cX10_areBeside 32 = .ok (.if_icmp .eq 11, 3) := dd_get dm_X10_areBeside_0 20 rfl
theorem dX10_areBeside_35 : decode cX10_areBeside 35 = .ok (.iload 4, 2) := dd_get dm_X10_areBeside_0 21 rfl
theorem dX10_areBeside_37 : decode cX10_areBeside 37 = .ok (.iconst 1, 1) := dd_get dm_X10_areBeside_0 22 rfl
theorem dX10_areBeside_38 : decode cX10_areBeside 38 = .ok (.iload_n 1, 1) := dd_get dm_X10_areBeside_0 23 rfl
theorem dX10_areBeside_39 : decode cX10_areBeside 39 = .ok (.isub, 1) := dd_get dm_X10_areBeside_0 24 rfl
theorem dX10_areBeside_40 : decode cX10_areBeside 40 = .ok (.if_icmp .ne 7, 3) := dd_get dm_X10_areBeside_0 25 rfl
theorem dX10_areBeside_43 : decode cX10_areBeside 43 = .ok (.iconst 1, 1) := dd_get dm_X10_areBeside_0 26 rfl
theorem dX10_areBeside_44 : decode cX10_areBeside 44 = .ok (.goto 4, 3) := dd_get dm_X10_areBeside_0 27 rfl
theorem dX10_areBeside_47 : decode cX10_areBeside 47 = .ok (.iconst 0, 1) := dd_get dm_X10_areBeside_0 28 rfl
theorem dX10_areBeside_48 : decode cX10_areBeside 48 = .ok (.ireturn, 1) := dd_get dm_X10_areBeside_0 29 rfl
theorem dm_X10_keepsTwins_0 : (([(0, .iconst 1, 1), (1, .istore_n 3, 1), (2, .iconst 0, 1), (3, .istore 4, 2), (5, .iload 4, 2), (7, .iload_n 2, 1), (8, .if_icmp .ge 56, 3), (11, .aload_n 0, 1), (12, .aload_n 1, 1), (13, .iload 4, 2), (15, .iaload, 1), (16, .invokevirtual 137, 3), (19, .istore 5, 2), (21, .iload_n 3, 1), (22, .iload 5, 2), (24, .ifCond .lt 27, 3), (27, .aload_n 0, 1), (28, .getfield 45, 3), (31, .iload 5, 2), (33, .baload, 1), (34, .ifCond .ne 17, 3), (37, .aload_n 1, 1), (38, .iload_n 2, 1), (39, .aload_n 1, 1), (40, .iload 4, 2), (42, .iaload, 1), (43, .iload 5, 2), (45, .invokestatic 153, 3), (48, .ifCond .eq 7, 3), (51, .iconst 1, 1), (52, .goto 4, 3), (55, .iconst 0, 1), (56, .iand, 1), (57, .istore_n 3, 1), (58, .iinc 4 1, 3), (61, .goto (-56), 3), (64, .iload_n 3, 1), (65, .ireturn, 1)] : List (Nat × Instr × Nat)).all fun q => decide (decode cX10_keepsTwins q.1 = .ok (q.2.1, q.2.2))) = true := by decide +kernel
theorem dX10_keepsTwins_0 : decode cX10_keepsTwins 0 = .ok (.iconst 1, 1) := dd_get dm_X10_keepsTwins_0 0 rfl
theorem dX10_keepsTwins_1 : decode cX10_keepsTwins 1 = .ok (.istore_n 3, 1) := dd_get dm_X10_keepsTwins_0 1 rfl
theorem dX10_keepsTwins_2 : decode cX10_keepsTwins 2 = .ok (.iconst 0, 1) := dd_get dm_X10_keepsTwins_0 2 rfl
theorem dX10_keepsTwins_3 : decode cX10_keepsTwins 3 = .ok (.istore 4, 2) := dd_get dm_X10_keepsTwins_0 3 rfl
theorem dX10_keepsTwins_5 : decode cX10_keepsTwins 5 = .ok (.iload 4, 2) := dd_get dm_X10_keepsTwins_0 4 rfl
theorem dX10_keepsTwins_7 : decode cX10_keepsTwins 7 = .ok (.iload_n 2, 1) := dd_get dm_X10_keepsTwins_0 5 rfl
theorem dX10_keepsTwins_8 : decode cX10_keepsTwins 8 = .ok (.if_icmp .ge 56, 3) := dd_get dm_X10_keepsTwins_0 6 rfl
theorem dX10_keepsTwins_11 : decode cX10_keepsTwins 11 = .ok (.aload_n 0, 1) := dd_get dm_X10_keepsTwins_0 7 rfl
theorem dX10_keepsTwins_12 : decode cX10_keepsTwins 12 = .ok (.aload_n 1, 1) := dd_get dm_X10_keepsTwins_0 8 rfl
theorem dX10_keepsTwins_13 : decode cX10_keepsTwins 13 = .ok (.iload 4, 2) := dd_get dm_X10_keepsTwins_0 9 rfl
theorem dX10_keepsTwins_15 : decode cX10_keepsTwins 15 = .ok (.iaload, 1) := dd_get dm_X10_keepsTwins_0 10 rfl
theorem dX10_keepsTwins_16 : decode cX10_keepsTwins 16 = .ok (.invokevirtual 137, 3) := dd_get dm_X10_keepsTwins_0 11 rfl
theorem dX10_keepsTwins_19 : decode cX10_keepsTwins 19 = .ok (.istore 5, 2) := dd_get dm_X10_keepsTwins_0 12 rfl
theorem dX10_keepsTwins_21 : decode cX10_keepsTwins 21 = .ok (.iload_n 3, 1) := dd_get dm_X10_keepsTwins_0 13 rfl
theorem dX10_keepsTwins_22 : decode cX10_keepsTwins 22 = .ok (.iload 5, 2) := dd_get dm_X10_keepsTwins_0 14 rfl
theorem dX10_keepsTwins_24 : decode cX10_keepsTwins 24 = .ok (.ifCond .lt 27, 3) := dd_get dm_X10_keepsTwins_0 15 rfl
theorem dX10_keepsTwins_27 : decode cX10_keepsTwins 27 = .ok (.aload_n 0, 1) := dd_get dm_X10_keepsTwins_0 16 rfl
theorem dX10_keepsTwins_28 : decode cX10_keepsTwins 28 = .ok (.getfield 45, 3) := dd_get dm_X10_keepsTwins_0 17 rfl
theorem dX10_keepsTwins_31 : decode cX10_keepsTwins 31 = .ok (.iload 5, 2) := dd_get dm_X10_keepsTwins_0 18 rfl
theorem dX10_keepsTwins_33 : decode cX10_keepsTwins 33 = .ok (.baload, 1) := dd_get dm_X10_keepsTwins_0 19 rfl
theorem dX10_keepsTwins_34 : decode cX10_keepsTwins 34 = .ok (.ifCond .ne 17, 3) := dd_get dm_X10_keepsTwins_0 20 rfl
theorem dX10_keepsTwins_37 : decode cX10_keepsTwins 37 = .ok (.aload_n 1, 1) := dd_get dm_X10_keepsTwins_0 21 rfl
theorem dX10_keepsTwins_38 : decode cX10_keepsTwins 38 = .ok (.iload_n 2, 1) := dd_get dm_X10_keepsTwins_0 22 rfl
theorem dX10_keepsTwins_39 : decode cX10_keepsTwins 39 = .ok (.aload_n 1, 1) := dd_get dm_X10_keepsTwins_0 23 rfl
theorem dX10_keepsTwins_40 : decode cX10_keepsTwins 40 = .ok (.iload 4, 2) := dd_get dm_X10_keepsTwins_0 24 rfl
theorem dX10_keepsTwins_42 : decode cX10_keepsTwins 42 = .ok (.iaload, 1) := dd_get dm_X10_keepsTwins_0 25 rfl
theorem dX10_keepsTwins_43 : decode cX10_keepsTwins 43 = .ok (.iload 5, 2) := dd_get dm_X10_keepsTwins_0 26 rfl
theorem dX10_keepsTwins_45 : decode cX10_keepsTwins 45 = .ok (.invokestatic 153, 3) := dd_get dm_X10_keepsTwins_0 27 rfl
theorem dX10_keepsTwins_48 : decode cX10_keepsTwins 48 = .ok (.ifCond .eq 7, 3) := dd_get dm_X10_keepsTwins_0 28 rfl
theorem dX10_keepsTwins_51 : decode cX10_keepsTwins 51 = .ok (.iconst 1, 1) := dd_get dm_X10_keepsTwins_0 29 rfl
theorem dX10_keepsTwins_52 : decode cX10_keepsTwins 52 = .ok (.goto 4, 3) := dd_get dm_X10_keepsTwins_0 30 rfl
theorem dX10_keepsTwins_55 : decode cX10_keepsTwins 55 = .ok (.iconst 0, 1) := dd_get dm_X10_keepsTwins_0 31 rfl
theorem dX10_keepsTwins_56 : decode cX10_keepsTwins 56 = .ok (.iand, 1) := dd_get dm_X10_keepsTwins_0 32 rfl
theorem dX10_keepsTwins_57 : decode cX10_keepsTwins 57 = .ok (.istore_n 3, 1) := dd_get dm_X10_keepsTwins_0 33 rfl
theorem dX10_keepsTwins_58 : decode cX10_keepsTwins 58 = .ok (.iinc 4 1, 3) := dd_get dm_X10_keepsTwins_0 34 rfl
theorem dX10_keepsTwins_61 : decode cX10_keepsTwins 61 = .ok (.goto (-56), 3) := dd_get dm_X10_keepsTwins_0 35 rfl
theorem dX10_keepsTwins_64 : decode cX10_keepsTwins 64 = .ok (.iload_n 3, 1) := dd_get dm_X10_keepsTwins_0 36 rfl
theorem dX10_keepsTwins_65 : decode cX10_keepsTwins 65 = .ok (.ireturn, 1) := dd_get dm_X10_keepsTwins_0 37 rfl
theorem dm_X10_nextOrder_0 : (([(0, .iload_n 1, 1), (1, .iconst 2, 1), (2, .isub, 1), (3, .istore_n 2, 1), (4, .iload_n 2, 1), (5, .iconst 1, 1), (6, .if_icmp .lt 26, 3), (9, .aload_n 0, 1), (10, .getfield 63, 3), (13, .iload_n 2, 1), (14, .iaload, 1), (15, .aload_n 0, 1), (16, .getfield 63, 3), (19, .iload_n 2, 1), (20, .iconst 1, 1), (21, .iadd, 1), (22, .iaload, 1), (23, .if_icmp .le 9, 3), (26, .iinc 2 (-1), 3), (29, .goto (-25), 3), (32, .iload_n 2, 1), (33, .iconst 1, 1), (34, .if_icmp .ge 5, 3), (37, .iconst 0, 1), (38, .ireturn, 1), (39, .iload_n 1, 1), (40, .iconst 1, 1), (41, .isub, 1), (42, .istore_n 3, 1), (43, .aload_n 0, 1), (44, .getfield 63, 3), (47, .iload_n 3, 1), (48, .iaload, 1), (49, .aload_n 0, 1), (50, .getfield 63, 3), (53, .iload_n 2, 1), (54, .iaload, 1), (55, .if_icmp .ge 9, 3), (58, .iinc 3 (-1), 3), (61, .goto (-18), 3), (64, .aload_n 0, 1), (65, .iload_n 2, 1), (66, .iload_n 3, 1), (67, .invokevirtual 157, 3), (70, .iload_n 2, 1), (71, .iconst 1, 1), (72, .iadd, 1), (73, .istore 4, 2), (75, .iload_n 1, 1), (76, .iconst 1, 1), (77, .isub, 1), (78, .istore 5, 2), (80, .iload 4, 2), (82, .iload 5, 2), (84, .if_icmp .ge 20, 3), (87, .aload_n 0, 1), (88, .iload 4, 2), (90, .iload 5, 2), (92, .invokevirtual 157, 3), (95, .iinc 4 1, 3)] : List (Nat × Instr × Nat)).all fun q => decide (decode cX10_nextOrder q.1 = .ok (q.2.1, q.2.2))) = true := by decide +kernel
theorem dX10_nextOrder_0 : decode cX10_nextOrder 0 = .ok (.iload_n 1, 1) := dd_get dm_X10_nextOrder_0 0 rfl
theorem dX10_nextOrder_1 : decode cX10_nextOrder 1 = .ok (.iconst 2, 1) := dd_get dm_X10_nextOrder_0 1 rfl
theorem dX10_nextOrder_2 : decode cX10_nextOrder 2 = .ok (.isub, 1) := dd_get dm_X10_nextOrder_0 2 rfl
theorem dX10_nextOrder_3 : decode cX10_nextOrder 3 = .ok (.istore_n 2, 1) := dd_get dm_X10_nextOrder_0 3 rfl
theorem dX10_nextOrder_4 : decode cX10_nextOrder 4 = .ok (.iload_n 2, 1) := dd_get dm_X10_nextOrder_0 4 rfl
theorem dX10_nextOrder_5 : decode cX10_nextOrder 5 = .ok (.iconst 1, 1) := dd_get dm_X10_nextOrder_0 5 rfl
theorem dX10_nextOrder_6 : decode cX10_nextOrder 6 = .ok (.if_icmp .lt 26, 3) := dd_get dm_X10_nextOrder_0 6 rfl
theorem dX10_nextOrder_9 : decode cX10_nextOrder 9 = .ok (.aload_n 0, 1) := dd_get dm_X10_nextOrder_0 7 rfl
theorem dX10_nextOrder_10 : decode cX10_nextOrder 10 = .ok (.getfield 63, 3) := dd_get dm_X10_nextOrder_0 8 rfl
theorem dX10_nextOrder_13 : decode cX10_nextOrder 13 = .ok (.iload_n 2, 1) := dd_get dm_X10_nextOrder_0 9 rfl
theorem dX10_nextOrder_14 : decode cX10_nextOrder 14 = .ok (.iaload, 1) := dd_get dm_X10_nextOrder_0 10 rfl
theorem dX10_nextOrder_15 : decode cX10_nextOrder 15 = .ok (.aload_n 0, 1) := dd_get dm_X10_nextOrder_0 11 rfl
theorem dX10_nextOrder_16 : decode cX10_nextOrder 16 = .ok (.getfield 63, 3) := dd_get dm_X10_nextOrder_0 12 rfl
theorem dX10_nextOrder_19 : decode cX10_nextOrder 19 = .ok (.iload_n 2, 1) := dd_get dm_X10_nextOrder_0 13 rfl
theorem dX10_nextOrder_20 : decode cX10_nextOrder 20 = .ok (.iconst 1, 1) := dd_get dm_X10_nextOrder_0 14 rfl
theorem dX10_nextOrder_21 : decode cX10_nextOrder 21 = .ok (.iadd, 1) := dd_get dm_X10_nextOrder_0 15 rfl
theorem dX10_nextOrder_22 : decode cX10_nextOrder 22 = .ok (.iaload, 1) := dd_get dm_X10_nextOrder_0 16 rfl
theorem dX10_nextOrder_23 : decode cX10_nextOrder 23 = .ok (.if_icmp .le 9, 3) := dd_get dm_X10_nextOrder_0 17 rfl
theorem dX10_nextOrder_26 : decode cX10_nextOrder 26 = .ok (.iinc 2 (-1), 3) := dd_get dm_X10_nextOrder_0 18 rfl
theorem dX10_nextOrder_29 : decode cX10_nextOrder 29 = .ok (.goto (-25), 3) := dd_get dm_X10_nextOrder_0 19 rfl
theorem dX10_nextOrder_32 : decode cX10_nextOrder 32 = .ok (.iload_n 2, 1) := dd_get dm_X10_nextOrder_0 20 rfl
theorem dX10_nextOrder_33 : decode cX10_nextOrder 33 = .ok (.iconst 1, 1) := dd_get dm_X10_nextOrder_0 21 rfl
theorem dX10_nextOrder_34 : decode cX10_nextOrder 34 = .ok (.if_icmp .ge 5, 3) := dd_get dm_X10_nextOrder_0 22 rfl
theorem dX10_nextOrder_37 : decode cX10_nextOrder 37 = .ok (.iconst 0, 1) := dd_get dm_X10_nextOrder_0 23 rfl
theorem dX10_nextOrder_38 : decode cX10_nextOrder 38 = .ok (.ireturn, 1) := dd_get dm_X10_nextOrder_0 24 rfl
theorem dX10_nextOrder_39 : decode cX10_nextOrder 39 = .ok (.iload_n 1, 1) := dd_get dm_X10_nextOrder_0 25 rfl
theorem dX10_nextOrder_40 : decode cX10_nextOrder 40 = .ok (.iconst 1, 1) := dd_get dm_X10_nextOrder_0 26 rfl
theorem dX10_nextOrder_41 : decode cX10_nextOrder 41 = .ok (.isub, 1) := dd_get dm_X10_nextOrder_0 27 rfl
theorem dX10_nextOrder_42 : decode cX10_nextOrder 42 = .ok (.istore_n 3, 1) := dd_get dm_X10_nextOrder_0 28 rfl
theorem dX10_nextOrder_43 : decode cX10_nextOrder 43 = .ok (.aload_n 0, 1) := dd_get dm_X10_nextOrder_0 29 rfl
theorem dX10_nextOrder_44 : decode cX10_nextOrder 44 = .ok (.getfield 63, 3) := dd_get dm_X10_nextOrder_0 30 rfl
theorem dX10_nextOrder_47 : decode cX10_nextOrder 47 = .ok (.iload_n 3, 1) := dd_get dm_X10_nextOrder_0 31 rfl
theorem dX10_nextOrder_48 : decode cX10_nextOrder 48 = .ok (.iaload, 1) := dd_get dm_X10_nextOrder_0 32 rfl
theorem dX10_nextOrder_49 : decode cX10_nextOrder 49 = .ok (.aload_n 0, 1) := dd_get dm_X10_nextOrder_0 33 rfl
theorem dX10_nextOrder_50 : decode cX10_nextOrder 50 = .ok (.getfield 63, 3) := dd_get dm_X10_nextOrder_0 34 rfl
theorem dX10_nextOrder_53 : decode cX10_nextOrder 53 = .ok (.iload_n 2, 1) := dd_get dm_X10_nextOrder_0 35 rfl
theorem dX10_nextOrder_54 : decode cX10_nextOrder 54 = .ok (.iaload, 1) := dd_get dm_X10_nextOrder_0 36 rfl
theorem dX10_nextOrder_55 : decode cX10_nextOrder 55 = .ok (.if_icmp .ge 9, 3) := dd_get dm_X10_nextOrder_0 37 rfl
theorem dX10_nextOrder_58 : decode cX10_nextOrder 58 = .ok (.iinc 3 (-1), 3) := dd_get dm_X10_nextOrder_0 38 rfl
theorem dX10_nextOrder_61 : decode cX10_nextOrder 61 = .ok (.goto (-18), 3) := dd_get dm_X10_nextOrder_0 39 rfl
theorem dX10_nextOrder_64 : decode cX10_nextOrder 64 = .ok (.aload_n 0, 1) := dd_get dm_X10_nextOrder_0 40 rfl
theorem dX10_nextOrder_65 : decode cX10_nextOrder 65 = .ok (.iload_n 2, 1) := dd_get dm_X10_nextOrder_0 41 rfl
theorem dX10_nextOrder_66 : decode cX10_nextOrder 66 = .ok (.iload_n 3, 1) := dd_get dm_X10_nextOrder_0 42 rfl
theorem dX10_nextOrder_67 : decode cX10_nextOrder 67 = .ok (.invokevirtual 157, 3) := dd_get dm_X10_nextOrder_0 43 rfl
theorem dX10_nextOrder_70 : decode cX10_nextOrder 70 = .ok (.iload_n 2, 1) := dd_get dm_X10_nextOrder_0 44 rfl
theorem dX10_nextOrder_71 : decode cX10_nextOrder 71 = .ok (.iconst 1, 1) := dd_get dm_X10_nextOrder_0 45 rfl
theorem dX10_nextOrder_72 : decode cX10_nextOrder 72 = .ok (.iadd, 1) := dd_get dm_X10_nextOrder_0 46 rfl
theorem dX10_nextOrder_73 : decode cX10_nextOrder 73 = .ok (.istore 4, 2) := dd_get dm_X10_nextOrder_0 47 rfl
theorem dX10_nextOrder_75 : decode cX10_nextOrder 75 = .ok (.iload_n 1, 1) := dd_get dm_X10_nextOrder_0 48 rfl
theorem dX10_nextOrder_76 : decode cX10_nextOrder 76 = .ok (.iconst 1, 1) := dd_get dm_X10_nextOrder_0 49 rfl
theorem dX10_nextOrder_77 : decode cX10_nextOrder 77 = .ok (.isub, 1) := dd_get dm_X10_nextOrder_0 50 rfl
theorem dX10_nextOrder_78 : decode cX10_nextOrder 78 = .ok (.istore 5, 2) := dd_get dm_X10_nextOrder_0 51 rfl
theorem dX10_nextOrder_80 : decode cX10_nextOrder 80 = .ok (.iload 4, 2) := dd_get dm_X10_nextOrder_0 52 rfl
theorem dX10_nextOrder_82 : decode cX10_nextOrder 82 = .ok (.iload 5, 2) := dd_get dm_X10_nextOrder_0 53 rfl
theorem dX10_nextOrder_84 : decode cX10_nextOrder 84 = .ok (.if_icmp .ge 20, 3) := dd_get dm_X10_nextOrder_0 54 rfl
theorem dX10_nextOrder_87 : decode cX10_nextOrder 87 = .ok (.aload_n 0, 1) := dd_get dm_X10_nextOrder_0 55 rfl
theorem dX10_nextOrder_88 : decode cX10_nextOrder 88 = .ok (.iload 4, 2) := dd_get dm_X10_nextOrder_0 56 rfl
theorem dX10_nextOrder_90 : decode cX10_nextOrder 90 = .ok (.iload 5, 2) := dd_get dm_X10_nextOrder_0 57 rfl
theorem dX10_nextOrder_92 : decode cX10_nextOrder 92 = .ok (.invokevirtual 157, 3) := dd_get dm_X10_nextOrder_0 58 rfl
theorem dX10_nextOrder_95 : decode cX10_nextOrder 95 = .ok (.iinc 4 1, 3) := dd_get dm_X10_nextOrder_0 59 rfl
theorem dm_X10_nextOrder_1 : (([(98, .iinc 5 (-1), 3), (101, .goto (-21), 3), (104, .iconst 1, 1), (105, .ireturn, 1)] : List (Nat × Instr × Nat)).all fun q => decide (decode cX10_nextOrder q.1 = .ok (q.2.1, q.2.2))) = true := by decide +kernel
theorem dX10_nextOrder_98 : decode cX10_nextOrder 98 = .ok (.iinc 5 (-1), 3) := dd_get dm_X10_nextOrder_1 0 rfl
theorem dX10_nextOrder_101 : decode cX10_nextOrder 101 = .ok (.goto (-21), 3) := dd_get dm_X10_nextOrder_1 1 rfl
theorem dX10_nextOrder_104 : decode cX10_nextOrder 104 = .ok (.iconst 1, 1) := dd_get dm_X10_nextOrder_1 2 rfl
theorem dX10_nextOrder_105 : decode cX10_nextOrder 105 = .ok (.ireturn, 1) := dd_get dm_X10_nextOrder_1 3 rfl
theorem dm_X10_swap_0 : (([(0, .aload_n 0, 1), (1, .getfield 63, 3), (4, .iload_n 1, 1), (5, .iaload, 1), (6, .istore_n 3, 1), (7, .aload_n 0, 1), (8, .getfield 63, 3), (11, .iload_n 1, 1), (12, .aload_n 0, 1), (13, .getfield 63, 3), (16, .iload_n 2, 1), (17, .iaload, 1), (18, .iastore, 1), (19, .aload_n 0, 1), (20, .getfield 63, 3), (23, .iload_n 2, 1), (24, .iload_n 3, 1), (25, .iastore, 1), (26, .return_, 1)] : List (Nat × Instr × Nat)).all fun q => decide (decode cX10_swap q.1 = .ok (q.2.1, q.2.2))) = true := by decide +kernel
theorem dX10_swap_0 : decode cX10_swap 0 = .ok (.aload_n 0, 1) := dd_get dm_X10_swap_0 0 rfl
theorem dX10_swap_1 : decode cX10_swap 1 = .ok (.getfield 63, 3) := dd_get dm_X10_swap_0 1 rfl
theorem dX10_swap_4 : decode cX10_swap 4 = .ok (.iload_n 1, 1) := dd_get dm_X10_swap_0 2 rfl
theorem dX10_swap_5 : decode cX10_swap 5 = .ok (.iaload, 1) := dd_get dm_X10_swap_0 3 rfl
theorem dX10_swap_6 : decode cX10_swap 6 = .ok (.istore_n 3, 1) := dd_get dm_X10_swap_0 4 rfl
theorem dX10_swap_7 : decode cX10_swap 7 = .ok (.aload_n 0, 1) := dd_get dm_X10_swap_0 5 rfl
theorem dX10_swap_8 : decode cX10_swap 8 = .ok (.getfield 63, 3) := dd_get dm_X10_swap_0 6 rfl
theorem dX10_swap_11 : decode cX10_swap 11 = .ok (.iload_n 1, 1) := dd_get dm_X10_swap_0 7 rfl
theorem dX10_swap_12 : decode cX10_swap 12 = .ok (.aload_n 0, 1) := dd_get dm_X10_swap_0 8 rfl
theorem dX10_swap_13 : decode cX10_swap 13 = .ok (.getfield 63, 3) := dd_get dm_X10_swap_0 9 rfl
theorem dX10_swap_16 : decode cX10_swap 16 = .ok (.iload_n 2, 1) := dd_get dm_X10_swap_0 10 rfl
theorem dX10_swap_17 : decode cX10_swap 17 = .ok (.iaload, 1) := dd_get dm_X10_swap_0 11 rfl
theorem dX10_swap_18 : decode cX10_swap 18 = .ok (.iastore, 1) := dd_get dm_X10_swap_0 12 rfl
theorem dX10_swap_19 : decode cX10_swap 19 = .ok (.aload_n 0, 1) := dd_get dm_X10_swap_0 13 rfl
theorem dX10_swap_20 : decode cX10_swap 20 = .ok (.getfield 63, 3) := dd_get dm_X10_swap_0 14 rfl
theorem dX10_swap_23 : decode cX10_swap 23 = .ok (.iload_n 2, 1) := dd_get dm_X10_swap_0 15 rfl
theorem dX10_swap_24 : decode cX10_swap 24 = .ok (.iload_n 3, 1) := dd_get dm_X10_swap_0 16 rfl
theorem dX10_swap_25 : decode cX10_swap 25 = .ok (.iastore, 1) := dd_get dm_X10_swap_0 17 rfl
theorem dX10_swap_26 : decode cX10_swap 26 = .ok (.return_, 1) := dd_get dm_X10_swap_0 18 rfl
theorem dm_X10_isWritten_0 : (([(0, .iconst 1, 1), (1, .istore_n 2, 1), (2, .iconst 0, 1), (3, .istore_n 3, 1), (4, .iload_n 3, 1), (5, .iload_n 1, 1), (6, .if_icmp .ge 32, 3), (9, .iload_n 2, 1), (10, .aload_n 0, 1), (11, .getfield 63, 3), (14, .iload_n 3, 1), (15, .iaload, 1), (16, .aload_n 0, 1), (17, .getfield 69, 3), (20, .iload_n 3, 1), (21, .iaload, 1), (22, .if_icmp .ne 7, 3), (25, .iconst 1, 1), (26, .goto 4, 3), (29, .iconst 0, 1), (30, .iand, 1), (31, .istore_n 2, 1), (32, .iinc 3 1, 3), (35, .goto (-31), 3), (38, .iload_n 2, 1), (39, .ireturn, 1)] : List (Nat × Instr × Nat)).all fun q => decide (decode cX10_isWritten q.1 = .ok (q.2.1, q.2.2))) = true := by decide +kernel
theorem dX10_isWritten_0 : decode cX10_isWritten 0 = .ok (.iconst 1, 1) := dd_get dm_X10_isWritten_0 0 rfl
theorem dX10_isWritten_1 : decode cX10_isWritten 1 = .ok (.istore_n 2, 1) := dd_get dm_X10_isWritten_0 1 rfl
theorem dX10_isWritten_2 : decode cX10_isWritten 2 = .ok (.iconst 0, 1) := dd_get dm_X10_isWritten_0 2 rfl
theorem dX10_isWritten_3 : decode cX10_isWritten 3 = .ok (.istore_n 3, 1) := dd_get dm_X10_isWritten_0 3 rfl
theorem dX10_isWritten_4 : decode cX10_isWritten 4 = .ok (.iload_n 3, 1) := dd_get dm_X10_isWritten_0 4 rfl
theorem dX10_isWritten_5 : decode cX10_isWritten 5 = .ok (.iload_n 1, 1) := dd_get dm_X10_isWritten_0 5 rfl
theorem dX10_isWritten_6 : decode cX10_isWritten 6 = .ok (.if_icmp .ge 32, 3) := dd_get dm_X10_isWritten_0 6 rfl
theorem dX10_isWritten_9 : decode cX10_isWritten 9 = .ok (.iload_n 2, 1) := dd_get dm_X10_isWritten_0 7 rfl
theorem dX10_isWritten_10 : decode cX10_isWritten 10 = .ok (.aload_n 0, 1) := dd_get dm_X10_isWritten_0 8 rfl
theorem dX10_isWritten_11 : decode cX10_isWritten 11 = .ok (.getfield 63, 3) := dd_get dm_X10_isWritten_0 9 rfl
theorem dX10_isWritten_14 : decode cX10_isWritten 14 = .ok (.iload_n 3, 1) := dd_get dm_X10_isWritten_0 10 rfl
theorem dX10_isWritten_15 : decode cX10_isWritten 15 = .ok (.iaload, 1) := dd_get dm_X10_isWritten_0 11 rfl
theorem dX10_isWritten_16 : decode cX10_isWritten 16 = .ok (.aload_n 0, 1) := dd_get dm_X10_isWritten_0 12 rfl
theorem dX10_isWritten_17 : decode cX10_isWritten 17 = .ok (.getfield 69, 3) := dd_get dm_X10_isWritten_0 13 rfl
theorem dX10_isWritten_20 : decode cX10_isWritten 20 = .ok (.iload_n 3, 1) := dd_get dm_X10_isWritten_0 14 rfl
theorem dX10_isWritten_21 : decode cX10_isWritten 21 = .ok (.iaload, 1) := dd_get dm_X10_isWritten_0 15 rfl
theorem dX10_isWritten_22 : decode cX10_isWritten 22 = .ok (.if_icmp .ne 7, 3) := dd_get dm_X10_isWritten_0 16 rfl
theorem dX10_isWritten_25 : decode cX10_isWritten 25 = .ok (.iconst 1, 1) := dd_get dm_X10_isWritten_0 17 rfl
theorem dX10_isWritten_26 : decode cX10_isWritten 26 = .ok (.goto 4, 3) := dd_get dm_X10_isWritten_0 18 rfl
theorem dX10_isWritten_29 : decode cX10_isWritten 29 = .ok (.iconst 0, 1) := dd_get dm_X10_isWritten_0 19 rfl
theorem dX10_isWritten_30 : decode cX10_isWritten 30 = .ok (.iand, 1) := dd_get dm_X10_isWritten_0 20 rfl
theorem dX10_isWritten_31 : decode cX10_isWritten 31 = .ok (.istore_n 2, 1) := dd_get dm_X10_isWritten_0 21 rfl
theorem dX10_isWritten_32 : decode cX10_isWritten 32 = .ok (.iinc 3 1, 3) := dd_get dm_X10_isWritten_0 22 rfl
theorem dX10_isWritten_35 : decode cX10_isWritten 35 = .ok (.goto (-31), 3) := dd_get dm_X10_isWritten_0 23 rfl
theorem dX10_isWritten_38 : decode cX10_isWritten 38 = .ok (.iload_n 2, 1) := dd_get dm_X10_isWritten_0 24 rfl
theorem dX10_isWritten_39 : decode cX10_isWritten 39 = .ok (.ireturn, 1) := dd_get dm_X10_isWritten_0 25 rfl
theorem dm_X10_search_0 : (([(0, .iconst 0, 1), (1, .istore 4, 2), (3, .iconst 0, 1), (4, .istore 5, 2), (6, .iload 5, 2), (8, .aload_n 0, 1), (9, .getfield 107, 3), (12, .if_icmp .ge 31, 3), (15, .aload_n 0, 1), (16, .getfield 45, 3), (19, .iload 5, 2), (21, .baload, 1), (22, .ifCond .ne 15, 3), (25, .aload_n 0, 1), (26, .getfield 63, 3), (29, .iload 4, 2), (31, .iload 5, 2), (33, .iastore, 1), (34, .iinc 4 1, 3), (37, .iinc 5 1, 3), (40, .goto (-34), 3), (43, .iload 4, 2), (45, .iconst 3, 1), (46, .if_icmp .ge 6, 3), (49, .ldc 102, 2), (51, .ireturn, 1), (52, .ldc 102, 2), (54, .istore 5, 2), (56, .iconst 1, 1), (57, .istore 6, 2), (59, .iload 6, 2), (61, .ifCond .eq 170, 3), (64, .aload_n 0, 1), (65, .getfield 63, 3), (68, .iconst 1, 1), (69, .iaload, 1), (70, .aload_n 0, 1), (71, .getfield 63, 3), (74, .iload 4, 2), (76, .iconst 1, 1), (77, .isub, 1), (78, .iaload, 1), (79, .if_icmp .ge 16, 3), (82, .aload_n 0, 1), (83, .aload_n 0, 1), (84, .getfield 63, 3), (87, .iload 4, 2), (89, .invokevirtual 161, 3), (92, .goto 5, 3), (95, .ldc 102, 2), (97, .istore 7, 2), (99, .iload 7, 2), (101, .iload 5, 2), (103, .if_icmp .ge 20, 3), (106, .aload_n 0, 1), (107, .aload_n 0, 1), (108, .getfield 63, 3), (111, .iload 4, 2), (113, .invokevirtual 165, 3), (116, .ifCond .eq 7, 3)] : List (Nat × Instr × Nat)).all fun q => decide (decode cX10_search q.1 = .ok (q.2.1, q.2.2))) = true := by decide +kernel
theorem dX10_search_0 : decode cX10_search 0 = .ok (.iconst 0, 1) := dd_get dm_X10_search_0 0 rfl
theorem dX10_search_1 : decode cX10_search 1 = .ok (.istore 4, 2) := dd_get dm_X10_search_0 1 rfl
theorem dX10_search_3 : decode cX10_search 3 = .ok (.iconst 0, 1) := dd_get dm_X10_search_0 2 rfl
theorem dX10_search_4 : decode cX10_search 4 = .ok (.istore 5, 2) := dd_get dm_X10_search_0 3 rfl
theorem dX10_search_6 : decode cX10_search 6 = .ok (.iload 5, 2) := dd_get dm_X10_search_0 4 rfl
theorem dX10_search_8 : decode cX10_search 8 = .ok (.aload_n 0, 1) := dd_get dm_X10_search_0 5 rfl
theorem dX10_search_9 : decode cX10_search 9 = .ok (.getfield 107, 3) := dd_get dm_X10_search_0 6 rfl
theorem dX10_search_12 : decode cX10_search 12 = .ok (.if_icmp .ge 31, 3) := dd_get dm_X10_search_0 7 rfl
theorem dX10_search_15 : decode cX10_search 15 = .ok (.aload_n 0, 1) := dd_get dm_X10_search_0 8 rfl
theorem dX10_search_16 : decode cX10_search 16 = .ok (.getfield 45, 3) := dd_get dm_X10_search_0 9 rfl
theorem dX10_search_19 : decode cX10_search 19 = .ok (.iload 5, 2) := dd_get dm_X10_search_0 10 rfl
theorem dX10_search_21 : decode cX10_search 21 = .ok (.baload, 1) := dd_get dm_X10_search_0 11 rfl
theorem dX10_search_22 : decode cX10_search 22 = .ok (.ifCond .ne 15, 3) := dd_get dm_X10_search_0 12 rfl
theorem dX10_search_25 : decode cX10_search 25 = .ok (.aload_n 0, 1) := dd_get dm_X10_search_0 13 rfl
theorem dX10_search_26 : decode cX10_search 26 = .ok (.getfield 63, 3) := dd_get dm_X10_search_0 14 rfl
theorem dX10_search_29 : decode cX10_search 29 = .ok (.iload 4, 2) := dd_get dm_X10_search_0 15 rfl
theorem dX10_search_31 : decode cX10_search 31 = .ok (.iload 5, 2) := dd_get dm_X10_search_0 16 rfl
theorem dX10_search_33 : decode cX10_search 33 = .ok (.iastore, 1) := dd_get dm_X10_search_0 17 rfl
theorem dX10_search_34 : decode cX10_search 34 = .ok (.iinc 4 1, 3) := dd_get dm_X10_search_0 18 rfl
theorem dX10_search_37 : decode cX10_search 37 = .ok (.iinc 5 1, 3) := dd_get dm_X10_search_0 19 rfl
theorem dX10_search_40 : decode cX10_search 40 = .ok (.goto (-34), 3) := dd_get dm_X10_search_0 20 rfl
theorem dX10_search_43 : decode cX10_search 43 = .ok (.iload 4, 2) := dd_get dm_X10_search_0 21 rfl
theorem dX10_search_45 : decode cX10_search 45 = .ok (.iconst 3, 1) := dd_get dm_X10_search_0 22 rfl
theorem dX10_search_46 : decode cX10_search 46 = .ok (.if_icmp .ge 6, 3) := dd_get dm_X10_search_0 23 rfl
theorem dX10_search_49 : decode cX10_search 49 = .ok (.ldc 102, 2) := dd_get dm_X10_search_0 24 rfl
theorem dX10_search_51 : decode cX10_search 51 = .ok (.ireturn, 1) := dd_get dm_X10_search_0 25 rfl
theorem dX10_search_52 : decode cX10_search 52 = .ok (.ldc 102, 2) := dd_get dm_X10_search_0 26 rfl
theorem dX10_search_54 : decode cX10_search 54 = .ok (.istore 5, 2) := dd_get dm_X10_search_0 27 rfl
theorem dX10_search_56 : decode cX10_search 56 = .ok (.iconst 1, 1) := dd_get dm_X10_search_0 28 rfl
theorem dX10_search_57 : decode cX10_search 57 = .ok (.istore 6, 2) := dd_get dm_X10_search_0 29 rfl
theorem dX10_search_59 : decode cX10_search 59 = .ok (.iload 6, 2) := dd_get dm_X10_search_0 30 rfl
theorem dX10_search_61 : decode cX10_search 61 = .ok (.ifCond .eq 170, 3) := dd_get dm_X10_search_0 31 rfl
theorem dX10_search_64 : decode cX10_search 64 = .ok (.aload_n 0, 1) := dd_get dm_X10_search_0 32 rfl
theorem dX10_search_65 : decode cX10_search 65 = .ok (.getfield 63, 3) := dd_get dm_X10_search_0 33 rfl
theorem dX10_search_68 : decode cX10_search 68 = .ok (.iconst 1, 1) := dd_get dm_X10_search_0 34 rfl
theorem dX10_search_69 : decode cX10_search 69 = .ok (.iaload, 1) := dd_get dm_X10_search_0 35 rfl
theorem dX10_search_70 : decode cX10_search 70 = .ok (.aload_n 0, 1) := dd_get dm_X10_search_0 36 rfl
theorem dX10_search_71 : decode cX10_search 71 = .ok (.getfield 63, 3) := dd_get dm_X10_search_0 37 rfl
theorem dX10_search_74 : decode cX10_search 74 = .ok (.iload 4, 2) := dd_get dm_X10_search_0 38 rfl
theorem dX10_search_76 : decode cX10_search 76 = .ok (.iconst 1, 1) := dd_get dm_X10_search_0 39 rfl
theorem dX10_search_77 : decode cX10_search 77 = .ok (.isub, 1) := dd_get dm_X10_search_0 40 rfl
theorem dX10_search_78 : decode cX10_search 78 = .ok (.iaload, 1) := dd_get dm_X10_search_0 41 rfl
theorem dX10_search_79 : decode cX10_search 79 = .ok (.if_icmp .ge 16, 3) := dd_get dm_X10_search_0 42 rfl
theorem dX10_search_82 : decode cX10_search 82 = .ok (.aload_n 0, 1) := dd_get dm_X10_search_0 43 rfl
theorem dX10_search_83 : decode cX10_search 83 = .ok (.aload_n 0, 1) := dd_get dm_X10_search_0 44 rfl
theorem dX10_search_84 : decode cX10_search 84 = .ok (.getfield 63, 3) := dd_get dm_X10_search_0 45 rfl
theorem dX10_search_87 : decode cX10_search 87 = .ok (.iload 4, 2) := dd_get dm_X10_search_0 46 rfl
theorem dX10_search_89 : decode cX10_search 89 = .ok (.invokevirtual 161, 3) := dd_get dm_X10_search_0 47 rfl
theorem dX10_search_92 : decode cX10_search 92 = .ok (.goto 5, 3) := dd_get dm_X10_search_0 48 rfl
theorem dX10_search_95 : decode cX10_search 95 = .ok (.ldc 102, 2) := dd_get dm_X10_search_0 49 rfl
theorem dX10_search_97 : decode cX10_search 97 = .ok (.istore 7, 2) := dd_get dm_X10_search_0 50 rfl
theorem dX10_search_99 : decode cX10_search 99 = .ok (.iload 7, 2) := dd_get dm_X10_search_0 51 rfl
theorem dX10_search_101 : decode cX10_search 101 = .ok (.iload 5, 2) := dd_get dm_X10_search_0 52 rfl
theorem dX10_search_103 : decode cX10_search 103 = .ok (.if_icmp .ge 20, 3) := dd_get dm_X10_search_0 53 rfl
theorem dX10_search_106 : decode cX10_search 106 = .ok (.aload_n 0, 1) := dd_get dm_X10_search_0 54 rfl
theorem dX10_search_107 : decode cX10_search 107 = .ok (.aload_n 0, 1) := dd_get dm_X10_search_0 55 rfl
theorem dX10_search_108 : decode cX10_search 108 = .ok (.getfield 63, 3) := dd_get dm_X10_search_0 56 rfl
theorem dX10_search_111 : decode cX10_search 111 = .ok (.iload 4, 2) := dd_get dm_X10_search_0 57 rfl
theorem dX10_search_113 : decode cX10_search 113 = .ok (.invokevirtual 165, 3) := dd_get dm_X10_search_0 58 rfl
theorem dX10_search_116 : decode cX10_search 116 = .ok (.ifCond .eq 7, 3) := dd_get dm_X10_search_0 59 rfl
theorem dm_X10_search_1 : (([(119, .iconst 1, 1), (120, .goto 4, 3), (123, .iconst 0, 1), (124, .istore 8, 2), (126, .iload 8, 2), (128, .ifCond .eq 50, 3), (131, .iload_n 1, 1), (132, .iconst 1, 1), (133, .if_icmp .ne 12, 3), (136, .aload_n 0, 1), (137, .iload 4, 2), (139, .invokevirtual 169, 3), (142, .ifCond .ne 36, 3), (145, .iload_n 1, 1), (146, .iconst 2, 1), (147, .if_icmp .lt 27, 3), (150, .aload_n 0, 1), (151, .getfield 63, 3), (154, .iload 4, 2), (156, .iload_n 2, 1), (157, .iload_n 3, 1), (158, .invokestatic 153, 3), (161, .iload_n 1, 1), (162, .iconst 2, 1), (163, .if_icmp .ne 7, 3), (166, .iconst 1, 1), (167, .goto 4, 3), (170, .iconst 0, 1), (171, .if_icmp .ne 7, 3), (174, .iconst 1, 1), (175, .goto 4, 3), (178, .iconst 0, 1), (179, .istore 8, 2), (181, .iload 8, 2), (183, .ifCond .eq 37, 3), (186, .iload 7, 2), (188, .istore 5, 2), (190, .iconst 0, 1), (191, .istore 9, 2), (193, .iload 9, 2), (195, .iload 4, 2), (197, .if_icmp .ge 23, 3), (200, .aload_n 0, 1), (201, .getfield 66, 3), (204, .iload 9, 2), (206, .aload_n 0, 1), (207, .getfield 63, 3), (210, .iload 9, 2), (212, .iaload, 1), (213, .iastore, 1), (214, .iinc 9 1, 3), (217, .goto (-24), 3), (220, .aload_n 0, 1), (221, .iload 4, 2), (223, .invokevirtual 172, 3), (226, .istore 6, 2), (228, .goto (-169), 3), (231, .iload 5, 2), (233, .ireturn, 1)] : List (Nat × Instr × Nat)).all fun q => decide (decode cX10_search q.1 = .ok (q.2.1, q.2.2))) = true := by decide +kernel
theorem dX10_search_119 : decode cX10_search 119 = .ok (.iconst 1, 1) := dd_get dm_X10_search_1 0 rfl
theorem dX10_search_120 : decode cX10_search 120 = .ok (.goto 4, 3) := dd_get dm_X10_search_1 1 rfl
theorem dX10_search_123 : decode cX10_search 123 = .ok (.iconst 0, 1) := dd_get dm_X10_search_1 2 rfl
theorem dX10_search_124 : decode cX10_search 124 = .ok (.istore 8, 2) := dd_get dm_X10_search_1 3 rfl
theorem dX10_search_126 : decode cX10_search 126 = .ok (.iload 8, 2) := dd_get dm_X10_search_1 4 rfl
theorem dX10_search_128 : decode cX10_search 128 = .ok (.ifCond .eq 50, 3) := dd_get dm_X10_search_1 5 rfl
theorem dX10_search_131 : decode cX10_search 131 = .ok (.iload_n 1, 1) := dd_get dm_X10_search_1 6 rfl
theorem dX10_search_132 : decode cX10_search 132 = .ok (.iconst 1, 1) := dd_get dm_X10_search_1 7 rfl
theorem dX10_search_133 : decode cX10_search 133 = .ok (.if_icmp .ne 12, 3) := dd_get dm_X10_search_1 8 rfl
theorem dX10_search_136 : decode cX10_search 136 = .ok (.aload_n 0, 1) := dd_get dm_X10_search_1 9 rfl
theorem dX10_search_137 : decode cX10_search 137 = .ok (.iload 4, 2) := dd_get dm_X10_search_1 10 rfl
theorem dX10_search_139 : decode cX10_search 139 = .ok (.invokevirtual 169, 3) := dd_get dm_X10_search_1 11 rfl
theorem dX10_search_142 : decode cX10_search 142 = .ok (.ifCond .ne 36, 3) := dd_get dm_X10_search_1 12 rfl
theorem dX10_search_145 : decode cX10_search 145 = .ok (.iload_n 1, 1) := dd_get dm_X10_search_1 13 rfl
theorem dX10_search_146 : decode cX10_search 146 = .ok (.iconst 2, 1) := dd_get dm_X10_search_1 14 rfl
theorem dX10_search_147 : decode cX10_search 147 = .ok (.if_icmp .lt 27, 3) := dd_get dm_X10_search_1 15 rfl
theorem dX10_search_150 : decode cX10_search 150 = .ok (.aload_n 0, 1) := dd_get dm_X10_search_1 16 rfl
theorem dX10_search_151 : decode cX10_search 151 = .ok (.getfield 63, 3) := dd_get dm_X10_search_1 17 rfl
theorem dX10_search_154 : decode cX10_search 154 = .ok (.iload 4, 2) := dd_get dm_X10_search_1 18 rfl
theorem dX10_search_156 : decode cX10_search 156 = .ok (.iload_n 2, 1) := dd_get dm_X10_search_1 19 rfl
theorem dX10_search_157 : decode cX10_search 157 = .ok (.iload_n 3, 1) := dd_get dm_X10_search_1 20 rfl
theorem dX10_search_158 : decode cX10_search 158 = .ok (.invokestatic 153, 3) := dd_get dm_X10_search_1 21 rfl
theorem dX10_search_161 : decode cX10_search 161 = .ok (.iload_n 1, 1) := dd_get dm_X10_search_1 22 rfl
theorem dX10_search_162 : decode cX10_search 162 = .ok (.iconst 2, 1) := dd_get dm_X10_search_1 23 rfl
theorem dX10_search_163 : decode cX10_search 163 = .ok (.if_icmp .ne 7, 3) := dd_get dm_X10_search_1 24 rfl
theorem dX10_search_166 : decode cX10_search 166 = .ok (.iconst 1, 1) := dd_get dm_X10_search_1 25 rfl
theorem dX10_search_167 : decode cX10_search 167 = .ok (.goto 4, 3) := dd_get dm_X10_search_1 26 rfl
theorem dX10_search_170 : decode cX10_search 170 = .ok (.iconst 0, 1) := dd_get dm_X10_search_1 27 rfl
theorem dX10_search_171 : decode cX10_search 171 = .ok (.if_icmp .ne 7, 3) := dd_get dm_X10_search_1 28 rfl
theorem dX10_search_174 : decode cX10_search 174 = .ok (.iconst 1, 1) := dd_get dm_X10_search_1 29 rfl
theorem dX10_search_175 : decode cX10_search 175 = .ok (.goto 4, 3) := dd_get dm_X10_search_1 30 rfl
theorem dX10_search_178 : decode cX10_search 178 = .ok (.iconst 0, 1) := dd_get dm_X10_search_1 31 rfl
theorem dX10_search_179 : decode cX10_search 179 = .ok (.istore 8, 2) := dd_get dm_X10_search_1 32 rfl
theorem dX10_search_181 : decode cX10_search 181 = .ok (.iload 8, 2) := dd_get dm_X10_search_1 33 rfl
theorem dX10_search_183 : decode cX10_search 183 = .ok (.ifCond .eq 37, 3) := dd_get dm_X10_search_1 34 rfl
theorem dX10_search_186 : decode cX10_search 186 = .ok (.iload 7, 2) := dd_get dm_X10_search_1 35 rfl
theorem dX10_search_188 : decode cX10_search 188 = .ok (.istore 5, 2) := dd_get dm_X10_search_1 36 rfl
theorem dX10_search_190 : decode cX10_search 190 = .ok (.iconst 0, 1) := dd_get dm_X10_search_1 37 rfl
theorem dX10_search_191 : decode cX10_search 191 = .ok (.istore 9, 2) := dd_get dm_X10_search_1 38 rfl
theorem dX10_search_193 : decode cX10_search 193 = .ok (.iload 9, 2) := dd_get dm_X10_search_1 39 rfl
theorem dX10_search_195 : decode cX10_search 195 = .ok (.iload 4, 2) := dd_get dm_X10_search_1 40 rfl
theorem dX10_search_197 : decode cX10_search 197 = .ok (.if_icmp .ge 23, 3) := dd_get dm_X10_search_1 41 rfl
theorem dX10_search_200 : decode cX10_search 200 = .ok (.aload_n 0, 1) := dd_get dm_X10_search_1 42 rfl
theorem dX10_search_201 : decode cX10_search 201 = .ok (.getfield 66, 3) := dd_get dm_X10_search_1 43 rfl
theorem dX10_search_204 : decode cX10_search 204 = .ok (.iload 9, 2) := dd_get dm_X10_search_1 44 rfl
theorem dX10_search_206 : decode cX10_search 206 = .ok (.aload_n 0, 1) := dd_get dm_X10_search_1 45 rfl
theorem dX10_search_207 : decode cX10_search 207 = .ok (.getfield 63, 3) := dd_get dm_X10_search_1 46 rfl
theorem dX10_search_210 : decode cX10_search 210 = .ok (.iload 9, 2) := dd_get dm_X10_search_1 47 rfl
theorem dX10_search_212 : decode cX10_search 212 = .ok (.iaload, 1) := dd_get dm_X10_search_1 48 rfl
theorem dX10_search_213 : decode cX10_search 213 = .ok (.iastore, 1) := dd_get dm_X10_search_1 49 rfl
theorem dX10_search_214 : decode cX10_search 214 = .ok (.iinc 9 1, 3) := dd_get dm_X10_search_1 50 rfl
theorem dX10_search_217 : decode cX10_search 217 = .ok (.goto (-24), 3) := dd_get dm_X10_search_1 51 rfl
theorem dX10_search_220 : decode cX10_search 220 = .ok (.aload_n 0, 1) := dd_get dm_X10_search_1 52 rfl
theorem dX10_search_221 : decode cX10_search 221 = .ok (.iload 4, 2) := dd_get dm_X10_search_1 53 rfl
theorem dX10_search_223 : decode cX10_search 223 = .ok (.invokevirtual 172, 3) := dd_get dm_X10_search_1 54 rfl
theorem dX10_search_226 : decode cX10_search 226 = .ok (.istore 6, 2) := dd_get dm_X10_search_1 55 rfl
theorem dX10_search_228 : decode cX10_search 228 = .ok (.goto (-169), 3) := dd_get dm_X10_search_1 56 rfl
theorem dX10_search_231 : decode cX10_search 231 = .ok (.iload 5, 2) := dd_get dm_X10_search_1 57 rfl
theorem dX10_search_233 : decode cX10_search 233 = .ok (.ireturn, 1) := dd_get dm_X10_search_1 58 rfl
theorem dm_X10_least_0 : (([(0, .aload_n 0, 1), (1, .invokevirtual 142, 3), (4, .bipush 8, 2), (6, .if_icmp .le 6, 3), (9, .bipush (-8), 2), (11, .ireturn, 1), (12, .aload_n 0, 1), (13, .iconst 0, 1), (14, .iconst 0, 1), (15, .iconst 0, 1), (16, .invokevirtual 175, 3), (19, .istore_n 1, 1), (20, .iload_n 1, 1), (21, .ldc 102, 2), (23, .if_icmp .ne 6, 3), (26, .bipush (-7), 2), (28, .ireturn, 1), (29, .aload_n 0, 1), (30, .aload_n 0, 1), (31, .invokevirtual 142, 3), (34, .putfield 117, 3), (37, .iconst 0, 1), (38, .istore_n 2, 1), (39, .iload_n 2, 1), (40, .aload_n 0, 1), (41, .getfield 117, 3), (44, .if_icmp .ge 21, 3), (47, .aload_n 0, 1), (48, .getfield 51, 3), (51, .iload_n 2, 1), (52, .aload_n 0, 1), (53, .getfield 66, 3), (56, .iload_n 2, 1), (57, .iaload, 1), (58, .iastore, 1), (59, .iinc 2 1, 3), (62, .goto (-23), 3), (65, .iload_n 1, 1), (66, .ireturn, 1)] : List (Nat × Instr × Nat)).all fun q => decide (decode cX10_least q.1 = .ok (q.2.1, q.2.2))) = true := by decide +kernel
theorem dX10_least_0 : decode cX10_least 0 = .ok (.aload_n 0, 1) := dd_get dm_X10_least_0 0 rfl
theorem dX10_least_1 : decode cX10_least 1 = .ok (.invokevirtual 142, 3) := dd_get dm_X10_least_0 1 rfl
theorem dX10_least_4 : decode cX10_least 4 = .ok (.bipush 8, 2) := dd_get dm_X10_least_0 2 rfl
theorem dX10_least_6 : decode cX10_least 6 = .ok (.if_icmp .le 6, 3) := dd_get dm_X10_least_0 3 rfl
theorem dX10_least_9 : decode cX10_least 9 = .ok (.bipush (-8), 2) := dd_get dm_X10_least_0 4 rfl
theorem dX10_least_11 : decode cX10_least 11 = .ok (.ireturn, 1) := dd_get dm_X10_least_0 5 rfl
theorem dX10_least_12 : decode cX10_least 12 = .ok (.aload_n 0, 1) := dd_get dm_X10_least_0 6 rfl
theorem dX10_least_13 : decode cX10_least 13 = .ok (.iconst 0, 1) := dd_get dm_X10_least_0 7 rfl
theorem dX10_least_14 : decode cX10_least 14 = .ok (.iconst 0, 1) := dd_get dm_X10_least_0 8 rfl
theorem dX10_least_15 : decode cX10_least 15 = .ok (.iconst 0, 1) := dd_get dm_X10_least_0 9 rfl
theorem dX10_least_16 : decode cX10_least 16 = .ok (.invokevirtual 175, 3) := dd_get dm_X10_least_0 10 rfl
theorem dX10_least_19 : decode cX10_least 19 = .ok (.istore_n 1, 1) := dd_get dm_X10_least_0 11 rfl
theorem dX10_least_20 : decode cX10_least 20 = .ok (.iload_n 1, 1) := dd_get dm_X10_least_0 12 rfl
theorem dX10_least_21 : decode cX10_least 21 = .ok (.ldc 102, 2) := dd_get dm_X10_least_0 13 rfl
theorem dX10_least_23 : decode cX10_least 23 = .ok (.if_icmp .ne 6, 3) := dd_get dm_X10_least_0 14 rfl
theorem dX10_least_26 : decode cX10_least 26 = .ok (.bipush (-7), 2) := dd_get dm_X10_least_0 15 rfl
theorem dX10_least_28 : decode cX10_least 28 = .ok (.ireturn, 1) := dd_get dm_X10_least_0 16 rfl
theorem dX10_least_29 : decode cX10_least 29 = .ok (.aload_n 0, 1) := dd_get dm_X10_least_0 17 rfl
theorem dX10_least_30 : decode cX10_least 30 = .ok (.aload_n 0, 1) := dd_get dm_X10_least_0 18 rfl
theorem dX10_least_31 : decode cX10_least 31 = .ok (.invokevirtual 142, 3) := dd_get dm_X10_least_0 19 rfl
theorem dX10_least_34 : decode cX10_least 34 = .ok (.putfield 117, 3) := dd_get dm_X10_least_0 20 rfl
theorem dX10_least_37 : decode cX10_least 37 = .ok (.iconst 0, 1) := dd_get dm_X10_least_0 21 rfl
theorem dX10_least_38 : decode cX10_least 38 = .ok (.istore_n 2, 1) := dd_get dm_X10_least_0 22 rfl
theorem dX10_least_39 : decode cX10_least 39 = .ok (.iload_n 2, 1) := dd_get dm_X10_least_0 23 rfl
theorem dX10_least_40 : decode cX10_least 40 = .ok (.aload_n 0, 1) := dd_get dm_X10_least_0 24 rfl
theorem dX10_least_41 : decode cX10_least 41 = .ok (.getfield 117, 3) := dd_get dm_X10_least_0 25 rfl
theorem dX10_least_44 : decode cX10_least 44 = .ok (.if_icmp .ge 21, 3) := dd_get dm_X10_least_0 26 rfl
theorem dX10_least_47 : decode cX10_least 47 = .ok (.aload_n 0, 1) := dd_get dm_X10_least_0 27 rfl
theorem dX10_least_48 : decode cX10_least 48 = .ok (.getfield 51, 3) := dd_get dm_X10_least_0 28 rfl
theorem dX10_least_51 : decode cX10_least 51 = .ok (.iload_n 2, 1) := dd_get dm_X10_least_0 29 rfl
theorem dX10_least_52 : decode cX10_least 52 = .ok (.aload_n 0, 1) := dd_get dm_X10_least_0 30 rfl
theorem dX10_least_53 : decode cX10_least 53 = .ok (.getfield 66, 3) := dd_get dm_X10_least_0 31 rfl
theorem dX10_least_56 : decode cX10_least 56 = .ok (.iload_n 2, 1) := dd_get dm_X10_least_0 32 rfl
theorem dX10_least_57 : decode cX10_least 57 = .ok (.iaload, 1) := dd_get dm_X10_least_0 33 rfl
theorem dX10_least_58 : decode cX10_least 58 = .ok (.iastore, 1) := dd_get dm_X10_least_0 34 rfl
theorem dX10_least_59 : decode cX10_least 59 = .ok (.iinc 2 1, 3) := dd_get dm_X10_least_0 35 rfl
theorem dX10_least_62 : decode cX10_least 62 = .ok (.goto (-23), 3) := dd_get dm_X10_least_0 36 rfl
theorem dX10_least_65 : decode cX10_least 65 = .ok (.iload_n 1, 1) := dd_get dm_X10_least_0 37 rfl
theorem dX10_least_66 : decode cX10_least 66 = .ok (.ireturn, 1) := dd_get dm_X10_least_0 38 rfl
theorem dm_X10_isWhole_0 : (([(0, .aload_n 0, 1), (1, .getfield 117, 3), (4, .aload_n 0, 1), (5, .invokevirtual 142, 3), (8, .if_icmp .ne 15, 3), (11, .aload_n 0, 1), (12, .getfield 117, 3), (15, .iconst 3, 1), (16, .if_icmp .lt 7, 3), (19, .iconst 1, 1), (20, .goto 4, 3), (23, .iconst 0, 1), (24, .ireturn, 1)] : List (Nat × Instr × Nat)).all fun q => decide (decode cX10_isWhole q.1 = .ok (q.2.1, q.2.2))) = true := by decide +kernel
theorem dX10_isWhole_0 : decode cX10_isWhole 0 = .ok (.aload_n 0, 1) := dd_get dm_X10_isWhole_0 0 rfl
theorem dX10_isWhole_1 : decode cX10_isWhole 1 = .ok (.getfield 117, 3) := dd_get dm_X10_isWhole_0 1 rfl
theorem dX10_isWhole_4 : decode cX10_isWhole 4 = .ok (.aload_n 0, 1) := dd_get dm_X10_isWhole_0 2 rfl
theorem dX10_isWhole_5 : decode cX10_isWhole 5 = .ok (.invokevirtual 142, 3) := dd_get dm_X10_isWhole_0 3 rfl
theorem dX10_isWhole_8 : decode cX10_isWhole 8 = .ok (.if_icmp .ne 15, 3) := dd_get dm_X10_isWhole_0 4 rfl
theorem dX10_isWhole_11 : decode cX10_isWhole 11 = .ok (.aload_n 0, 1) := dd_get dm_X10_isWhole_0 5 rfl
theorem dX10_isWhole_12 : decode cX10_isWhole 12 = .ok (.getfield 117, 3) := dd_get dm_X10_isWhole_0 6 rfl
theorem dX10_isWhole_15 : decode cX10_isWhole 15 = .ok (.iconst 3, 1) := dd_get dm_X10_isWhole_0 7 rfl
theorem dX10_isWhole_16 : decode cX10_isWhole 16 = .ok (.if_icmp .lt 7, 3) := dd_get dm_X10_isWhole_0 8 rfl
theorem dX10_isWhole_19 : decode cX10_isWhole 19 = .ok (.iconst 1, 1) := dd_get dm_X10_isWhole_0 9 rfl
theorem dX10_isWhole_20 : decode cX10_isWhole 20 = .ok (.goto 4, 3) := dd_get dm_X10_isWhole_0 10 rfl
theorem dX10_isWhole_23 : decode cX10_isWhole 23 = .ok (.iconst 0, 1) := dd_get dm_X10_isWhole_0 11 rfl
theorem dX10_isWhole_24 : decode cX10_isWhole 24 = .ok (.ireturn, 1) := dd_get dm_X10_isWhole_0 12 rfl
theorem dm_X10_write_0 : (([(0, .iconst 0, 1), (1, .istore_n 1, 1), (2, .iconst 1, 1), (3, .istore_n 2, 1), (4, .iload_n 2, 1), (5, .aload_n 0, 1), (6, .getfield 117, 3), (9, .if_icmp .ge 30, 3), (12, .aload_n 0, 1), (13, .getfield 51, 3), (16, .iload_n 2, 1), (17, .iaload, 1), (18, .aload_n 0, 1), (19, .getfield 51, 3), (22, .iload_n 1, 1), (23, .iaload, 1), (24, .if_icmp .ge 7, 3), (27, .iload_n 2, 1), (28, .goto 4, 3), (31, .iload_n 1, 1), (32, .istore_n 1, 1), (33, .iinc 2 1, 3), (36, .goto (-32), 3), (39, .aload_n 0, 1), (40, .getfield 51, 3), (43, .iload_n 1, 1), (44, .iconst 1, 1), (45, .iadd, 1), (46, .aload_n 0, 1), (47, .getfield 117, 3), (50, .irem, 1), (51, .iaload, 1), (52, .aload_n 0, 1), (53, .getfield 51, 3), (56, .iload_n 1, 1), (57, .aload_n 0, 1), (58, .getfield 117, 3), (61, .iadd, 1), (62, .iconst 1, 1), (63, .isub, 1), (64, .aload_n 0, 1), (65, .getfield 117, 3), (68, .irem, 1), (69, .iaload, 1), (70, .if_icmp .ge 7, 3), (73, .iconst 1, 1), (74, .goto 4, 3), (77, .iconst 0, 1), (78, .istore_n 2, 1), (79, .iconst 0, 1), (80, .istore_n 3, 1), (81, .iload_n 3, 1), (82, .aload_n 0, 1), (83, .getfield 117, 3), (86, .if_icmp .ge 43, 3), (89, .aload_n 0, 1), (90, .getfield 69, 3), (93, .iload_n 3, 1), (94, .aload_n 0, 1), (95, .getfield 51, 3)] : List (Nat × Instr × Nat)).all fun q => decide (decode cX10_write q.1 = .ok (q.2.1, q.2.2))) = true := by decide +kernel
theorem dX10_write_0 : decode cX10_write 0 = .ok (.iconst 0, 1) := dd_get dm_X10_write_0 0 rfl
theorem dX10_write_1 : decode cX10_write 1 = .ok (.istore_n 1, 1) := dd_get dm_X10_write_0 1 rfl
theorem dX10_write_2 : decode cX10_write 2 = .ok (.iconst 1, 1) := dd_get dm_X10_write_0 2 rfl
theorem dX10_write_3 : decode cX10_write 3 = .ok (.istore_n 2, 1) := dd_get dm_X10_write_0 3 rfl
theorem dX10_write_4 : decode cX10_write 4 = .ok (.iload_n 2, 1) := dd_get dm_X10_write_0 4 rfl
theorem dX10_write_5 : decode cX10_write 5 = .ok (.aload_n 0, 1) := dd_get dm_X10_write_0 5 rfl
theorem dX10_write_6 : decode cX10_write 6 = .ok (.getfield 117, 3) := dd_get dm_X10_write_0 6 rfl
theorem dX10_write_9 : decode cX10_write 9 = .ok (.if_icmp .ge 30, 3) := dd_get dm_X10_write_0 7 rfl
theorem dX10_write_12 : decode cX10_write 12 = .ok (.aload_n 0, 1) := dd_get dm_X10_write_0 8 rfl
theorem dX10_write_13 : decode cX10_write 13 = .ok (.getfield 51, 3) := dd_get dm_X10_write_0 9 rfl
theorem dX10_write_16 : decode cX10_write 16 = .ok (.iload_n 2, 1) := dd_get dm_X10_write_0 10 rfl
theorem dX10_write_17 : decode cX10_write 17 = .ok (.iaload, 1) := dd_get dm_X10_write_0 11 rfl
theorem dX10_write_18 : decode cX10_write 18 = .ok (.aload_n 0, 1) := dd_get dm_X10_write_0 12 rfl
theorem dX10_write_19 : decode cX10_write 19 = .ok (.getfield 51, 3) := dd_get dm_X10_write_0 13 rfl
theorem dX10_write_22 : decode cX10_write 22 = .ok (.iload_n 1, 1) := dd_get dm_X10_write_0 14 rfl
theorem dX10_write_23 : decode cX10_write 23 = .ok (.iaload, 1) := dd_get dm_X10_write_0 15 rfl
theorem dX10_write_24 : decode cX10_write 24 = .ok (.if_icmp .ge 7, 3) := dd_get dm_X10_write_0 16 rfl
theorem dX10_write_27 : decode cX10_write 27 = .ok (.iload_n 2, 1) := dd_get dm_X10_write_0 17 rfl
theorem dX10_write_28 : decode cX10_write 28 = .ok (.goto 4, 3) := dd_get dm_X10_write_0 18 rfl
theorem dX10_write_31 : decode cX10_write 31 = .ok (.iload_n 1, 1) := dd_get dm_X10_write_0 19 rfl
theorem dX10_write_32 : decode cX10_write 32 = .ok (.istore_n 1, 1) := dd_get dm_X10_write_0 20 rfl
theorem dX10_write_33 : decode cX10_write 33 = .ok (.iinc 2 1, 3) := dd_get dm_X10_write_0 21 rfl
theorem dX10_write_36 : decode cX10_write 36 = .ok (.goto (-32), 3) := dd_get dm_X10_write_0 22 rfl
theorem dX10_write_39 : decode cX10_write 39 = .ok (.aload_n 0, 1) := dd_get dm_X10_write_0 23 rfl
theorem dX10_write_40 : decode cX10_write 40 = .ok (.getfield 51, 3) := dd_get dm_X10_write_0 24 rfl
theorem dX10_write_43 : decode cX10_write 43 = .ok (.iload_n 1, 1) := dd_get dm_X10_write_0 25 rfl
theorem dX10_write_44 : decode cX10_write 44 = .ok (.iconst 1, 1) := dd_get dm_X10_write_0 26 rfl
theorem dX10_write_45 : decode cX10_write 45 = .ok (.iadd, 1) := dd_get dm_X10_write_0 27 rfl
theorem dX10_write_46 : decode cX10_write 46 = .ok (.aload_n 0, 1) := dd_get dm_X10_write_0 28 rfl
theorem dX10_write_47 : decode cX10_write 47 = .ok (.getfield 117, 3) := dd_get dm_X10_write_0 29 rfl
theorem dX10_write_50 : decode cX10_write 50 = .ok (.irem, 1) := dd_get dm_X10_write_0 30 rfl
theorem dX10_write_51 : decode cX10_write 51 = .ok (.iaload, 1) := dd_get dm_X10_write_0 31 rfl
theorem dX10_write_52 : decode cX10_write 52 = .ok (.aload_n 0, 1) := dd_get dm_X10_write_0 32 rfl
theorem dX10_write_53 : decode cX10_write 53 = .ok (.getfield 51, 3) := dd_get dm_X10_write_0 33 rfl
theorem dX10_write_56 : decode cX10_write 56 = .ok (.iload_n 1, 1) := dd_get dm_X10_write_0 34 rfl
theorem dX10_write_57 : decode cX10_write 57 = .ok (.aload_n 0, 1) := dd_get dm_X10_write_0 35 rfl
theorem dX10_write_58 : decode cX10_write 58 = .ok (.getfield 117, 3) := dd_get dm_X10_write_0 36 rfl
theorem dX10_write_61 : decode cX10_write 61 = .ok (.iadd, 1) := dd_get dm_X10_write_0 37 rfl
theorem dX10_write_62 : decode cX10_write 62 = .ok (.iconst 1, 1) := dd_get dm_X10_write_0 38 rfl
theorem dX10_write_63 : decode cX10_write 63 = .ok (.isub, 1) := dd_get dm_X10_write_0 39 rfl
theorem dX10_write_64 : decode cX10_write 64 = .ok (.aload_n 0, 1) := dd_get dm_X10_write_0 40 rfl
theorem dX10_write_65 : decode cX10_write 65 = .ok (.getfield 117, 3) := dd_get dm_X10_write_0 41 rfl
theorem dX10_write_68 : decode cX10_write 68 = .ok (.irem, 1) := dd_get dm_X10_write_0 42 rfl
theorem dX10_write_69 : decode cX10_write 69 = .ok (.iaload, 1) := dd_get dm_X10_write_0 43 rfl
theorem dX10_write_70 : decode cX10_write 70 = .ok (.if_icmp .ge 7, 3) := dd_get dm_X10_write_0 44 rfl
theorem dX10_write_73 : decode cX10_write 73 = .ok (.iconst 1, 1) := dd_get dm_X10_write_0 45 rfl
theorem dX10_write_74 : decode cX10_write 74 = .ok (.goto 4, 3) := dd_get dm_X10_write_0 46 rfl
theorem dX10_write_77 : decode cX10_write 77 = .ok (.iconst 0, 1) := dd_get dm_X10_write_0 47 rfl
theorem dX10_write_78 : decode cX10_write 78 = .ok (.istore_n 2, 1) := dd_get dm_X10_write_0 48 rfl
theorem dX10_write_79 : decode cX10_write 79 = .ok (.iconst 0, 1) := dd_get dm_X10_write_0 49 rfl
theorem dX10_write_80 : decode cX10_write 80 = .ok (.istore_n 3, 1) := dd_get dm_X10_write_0 50 rfl
theorem dX10_write_81 : decode cX10_write 81 = .ok (.iload_n 3, 1) := dd_get dm_X10_write_0 51 rfl
theorem dX10_write_82 : decode cX10_write 82 = .ok (.aload_n 0, 1) := dd_get dm_X10_write_0 52 rfl
theorem dX10_write_83 : decode cX10_write 83 = .ok (.getfield 117, 3) := dd_get dm_X10_write_0 53 rfl
theorem dX10_write_86 : decode cX10_write 86 = .ok (.if_icmp .ge 43, 3) := dd_get dm_X10_write_0 54 rfl
theorem dX10_write_89 : decode cX10_write 89 = .ok (.aload_n 0, 1) := dd_get dm_X10_write_0 55 rfl
theorem dX10_write_90 : decode cX10_write 90 = .ok (.getfield 69, 3) := dd_get dm_X10_write_0 56 rfl
theorem dX10_write_93 : decode cX10_write 93 = .ok (.iload_n 3, 1) := dd_get dm_X10_write_0 57 rfl
theorem dX10_write_94 : decode cX10_write 94 = .ok (.aload_n 0, 1) := dd_get dm_X10_write_0 58 rfl
theorem dX10_write_95 : decode cX10_write 95 = .ok (.getfield 51, 3) := dd_get dm_X10_write_0 59 rfl
theorem dm_X10_write_1 : (([(98, .iload_n 2, 1), (99, .ifCond .eq 9, 3), (102, .iload_n 1, 1), (103, .iload_n 3, 1), (104, .iadd, 1), (105, .goto 11, 3), (108, .iload_n 1, 1), (109, .aload_n 0, 1), (110, .getfield 117, 3), (113, .iadd, 1), (114, .iload_n 3, 1), (115, .isub, 1), (116, .aload_n 0, 1), (117, .getfield 117, 3), (120, .irem, 1), (121, .iaload, 1), (122, .iastore, 1), (123, .iinc 3 1, 3), (126, .goto (-45), 3), (129, .return_, 1)] : List (Nat × Instr × Nat)).all fun q => decide (decode cX10_write q.1 = .ok (q.2.1, q.2.2))) = true := by decide +kernel
theorem dX10_write_98 : decode cX10_write 98 = .ok (.iload_n 2, 1) := dd_get dm_X10_write_1 0 rfl
theorem dX10_write_99 : decode cX10_write 99 = .ok (.ifCond .eq 9, 3) := dd_get dm_X10_write_1 1 rfl
theorem dX10_write_102 : decode cX10_write 102 = .ok (.iload_n 1, 1) := dd_get dm_X10_write_1 2 rfl
theorem dX10_write_103 : decode cX10_write 103 = .ok (.iload_n 3, 1) := dd_get dm_X10_write_1 3 rfl
theorem dX10_write_104 : decode cX10_write 104 = .ok (.iadd, 1) := dd_get dm_X10_write_1 4 rfl
theorem dX10_write_105 : decode cX10_write 105 = .ok (.goto 11, 3) := dd_get dm_X10_write_1 5 rfl
theorem dX10_write_108 : decode cX10_write 108 = .ok (.iload_n 1, 1) := dd_get dm_X10_write_1 6 rfl
theorem dX10_write_109 : decode cX10_write 109 = .ok (.aload_n 0, 1) := dd_get dm_X10_write_1 7 rfl
theorem dX10_write_110 : decode cX10_write 110 = .ok (.getfield 117, 3) := dd_get dm_X10_write_1 8 rfl
theorem dX10_write_113 : decode cX10_write 113 = .ok (.iadd, 1) := dd_get dm_X10_write_1 9 rfl
theorem dX10_write_114 : decode cX10_write 114 = .ok (.iload_n 3, 1) := dd_get dm_X10_write_1 10 rfl
theorem dX10_write_115 : decode cX10_write 115 = .ok (.isub, 1) := dd_get dm_X10_write_1 11 rfl
theorem dX10_write_116 : decode cX10_write 116 = .ok (.aload_n 0, 1) := dd_get dm_X10_write_1 12 rfl
theorem dX10_write_117 : decode cX10_write 117 = .ok (.getfield 117, 3) := dd_get dm_X10_write_1 13 rfl
theorem dX10_write_120 : decode cX10_write 120 = .ok (.irem, 1) := dd_get dm_X10_write_1 14 rfl
theorem dX10_write_121 : decode cX10_write 121 = .ok (.iaload, 1) := dd_get dm_X10_write_1 15 rfl
theorem dX10_write_122 : decode cX10_write 122 = .ok (.iastore, 1) := dd_get dm_X10_write_1 16 rfl
theorem dX10_write_123 : decode cX10_write 123 = .ok (.iinc 3 1, 3) := dd_get dm_X10_write_1 17 rfl
theorem dX10_write_126 : decode cX10_write 126 = .ok (.goto (-45), 3) := dd_get dm_X10_write_1 18 rfl
theorem dX10_write_129 : decode cX10_write 129 = .ok (.return_, 1) := dd_get dm_X10_write_1 19 rfl
theorem dm_X10_second_0 : (([(0, .aload_n 0, 1), (1, .invokevirtual 179, 3), (4, .ifCond .ne 6, 3), (7, .bipush (-4), 2), (9, .ireturn, 1), (10, .aload_n 0, 1), (11, .invokevirtual 142, 3), (14, .bipush 8, 2), (16, .if_icmp .le 6, 3), (19, .bipush (-8), 2), (21, .ireturn, 1), (22, .aload_n 0, 1), (23, .invokevirtual 183, 3), (26, .aload_n 0, 1), (27, .iconst 1, 1), (28, .iconst 0, 1), (29, .iconst 0, 1), (30, .invokevirtual 175, 3), (33, .istore_n 1, 1), (34, .iload_n 1, 1), (35, .ldc 102, 2), (37, .if_icmp .ne 8, 3), (40, .bipush (-7), 2), (42, .goto 4, 3), (45, .iload_n 1, 1), (46, .ireturn, 1)] : List (Nat × Instr × Nat)).all fun q => decide (decode cX10_second q.1 = .ok (q.2.1, q.2.2))) = true := by decide +kernel
theorem dX10_second_0 : decode cX10_second 0 = .ok (.aload_n 0, 1) := dd_get dm_X10_second_0 0 rfl
theorem dX10_second_1 : decode cX10_second 1 = .ok (.invokevirtual 179, 3) := dd_get dm_X10_second_0 1 rfl
theorem dX10_second_4 : decode cX10_second 4 = .ok (.ifCond .ne 6, 3) := dd_get dm_X10_second_0 2 rfl
theorem dX10_second_7 : decode cX10_second 7 = .ok (.bipush (-4), 2) := dd_get dm_X10_second_0 3 rfl
theorem dX10_second_9 : decode cX10_second 9 = .ok (.ireturn, 1) := dd_get dm_X10_second_0 4 rfl
theorem dX10_second_10 : decode cX10_second 10 = .ok (.aload_n 0, 1) := dd_get dm_X10_second_0 5 rfl
theorem dX10_second_11 : decode cX10_second 11 = .ok (.invokevirtual 142, 3) := dd_get dm_X10_second_0 6 rfl
theorem dX10_second_14 : decode cX10_second 14 = .ok (.bipush 8, 2) := dd_get dm_X10_second_0 7 rfl
theorem dX10_second_16 : decode cX10_second 16 = .ok (.if_icmp .le 6, 3) := dd_get dm_X10_second_0 8 rfl
theorem dX10_second_19 : decode cX10_second 19 = .ok (.bipush (-8), 2) := dd_get dm_X10_second_0 9 rfl
theorem dX10_second_21 : decode cX10_second 21 = .ok (.ireturn, 1) := dd_get dm_X10_second_0 10 rfl
theorem dX10_second_22 : decode cX10_second 22 = .ok (.aload_n 0, 1) := dd_get dm_X10_second_0 11 rfl
theorem dX10_second_23 : decode cX10_second 23 = .ok (.invokevirtual 183, 3) := dd_get dm_X10_second_0 12 rfl
theorem dX10_second_26 : decode cX10_second 26 = .ok (.aload_n 0, 1) := dd_get dm_X10_second_0 13 rfl
theorem dX10_second_27 : decode cX10_second 27 = .ok (.iconst 1, 1) := dd_get dm_X10_second_0 14 rfl
theorem dX10_second_28 : decode cX10_second 28 = .ok (.iconst 0, 1) := dd_get dm_X10_second_0 15 rfl
theorem dX10_second_29 : decode cX10_second 29 = .ok (.iconst 0, 1) := dd_get dm_X10_second_0 16 rfl
theorem dX10_second_30 : decode cX10_second 30 = .ok (.invokevirtual 175, 3) := dd_get dm_X10_second_0 17 rfl
theorem dX10_second_33 : decode cX10_second 33 = .ok (.istore_n 1, 1) := dd_get dm_X10_second_0 18 rfl
theorem dX10_second_34 : decode cX10_second 34 = .ok (.iload_n 1, 1) := dd_get dm_X10_second_0 19 rfl
theorem dX10_second_35 : decode cX10_second 35 = .ok (.ldc 102, 2) := dd_get dm_X10_second_0 20 rfl
theorem dX10_second_37 : decode cX10_second 37 = .ok (.if_icmp .ne 8, 3) := dd_get dm_X10_second_0 21 rfl
theorem dX10_second_40 : decode cX10_second 40 = .ok (.bipush (-7), 2) := dd_get dm_X10_second_0 22 rfl
theorem dX10_second_42 : decode cX10_second 42 = .ok (.goto 4, 3) := dd_get dm_X10_second_0 23 rfl
theorem dX10_second_45 : decode cX10_second 45 = .ok (.iload_n 1, 1) := dd_get dm_X10_second_0 24 rfl
theorem dX10_second_46 : decode cX10_second 46 = .ok (.ireturn, 1) := dd_get dm_X10_second_0 25 rfl
theorem dm_X10_with_0 : (([(0, .aload_n 0, 1), (1, .iload_n 1, 1), (2, .invokevirtual 186, 3), (5, .ifCond .eq 16, 3), (8, .aload_n 0, 1), (9, .iload_n 2, 1), (10, .invokevirtual 186, 3), (13, .ifCond .eq 8, 3), (16, .iload_n 1, 1), (17, .iload_n 2, 1), (18, .if_icmp .ne 5, 3), (21, .iconst (-1), 1), (22, .ireturn, 1), (23, .aload_n 0, 1), (24, .invokevirtual 142, 3), (27, .bipush 8, 2), (29, .if_icmp .le 6, 3), (32, .bipush (-8), 2), (34, .ireturn, 1), (35, .aload_n 0, 1), (36, .iload_n 3, 1), (37, .ifCond .eq 7, 3), (40, .iconst 2, 1), (41, .goto 4, 3), (44, .iconst 3, 1), (45, .iload_n 1, 1), (46, .iload_n 2, 1), (47, .invokevirtual 175, 3), (50, .istore 4, 2), (52, .iload 4, 2), (54, .ldc 102, 2), (56, .if_icmp .ne 8, 3), (59, .bipush (-7), 2), (61, .goto 5, 3), (64, .iload 4, 2), (66, .ireturn, 1)] : List (Nat × Instr × Nat)).all fun q => decide (decode cX10_with q.1 = .ok (q.2.1, q.2.2))) = true := by decide +kernel
theorem dX10_with_0 : decode cX10_with 0 = .ok (.aload_n 0, 1) := dd_get dm_X10_with_0 0 rfl
theorem dX10_with_1 : decode cX10_with 1 = .ok (.iload_n 1, 1) := dd_get dm_X10_with_0 1 rfl
theorem dX10_with_2 : decode cX10_with 2 = .ok (.invokevirtual 186, 3) := dd_get dm_X10_with_0 2 rfl
theorem dX10_with_5 : decode cX10_with 5 = .ok (.ifCond .eq 16, 3) := dd_get dm_X10_with_0 3 rfl
theorem dX10_with_8 : decode cX10_with 8 = .ok (.aload_n 0, 1) := dd_get dm_X10_with_0 4 rfl
theorem dX10_with_9 : decode cX10_with 9 = .ok (.iload_n 2, 1) := dd_get dm_X10_with_0 5 rfl
theorem dX10_with_10 : decode cX10_with 10 = .ok (.invokevirtual 186, 3) := dd_get dm_X10_with_0 6 rfl
theorem dX10_with_13 : decode cX10_with 13 = .ok (.ifCond .eq 8, 3) := dd_get dm_X10_with_0 7 rfl
theorem dX10_with_16 : decode cX10_with 16 = .ok (.iload_n 1, 1) := dd_get dm_X10_with_0 8 rfl
theorem dX10_with_17 : decode cX10_with 17 = .ok (.iload_n 2, 1) := dd_get dm_X10_with_0 9 rfl
theorem dX10_with_18 : decode cX10_with 18 = .ok (.if_icmp .ne 5, 3) := dd_get dm_X10_with_0 10 rfl
theorem dX10_with_21 : decode cX10_with 21 = .ok (.iconst (-1), 1) := dd_get dm_X10_with_0 11 rfl
theorem dX10_with_22 : decode cX10_with 22 = .ok (.ireturn, 1) := dd_get dm_X10_with_0 12 rfl
theorem dX10_with_23 : decode cX10_with 23 = .ok (.aload_n 0, 1) := dd_get dm_X10_with_0 13 rfl
theorem dX10_with_24 : decode cX10_with 24 = .ok (.invokevirtual 142, 3) := dd_get dm_X10_with_0 14 rfl
theorem dX10_with_27 : decode cX10_with 27 = .ok (.bipush 8, 2) := dd_get dm_X10_with_0 15 rfl
theorem dX10_with_29 : decode cX10_with 29 = .ok (.if_icmp .le 6, 3) := dd_get dm_X10_with_0 16 rfl
theorem dX10_with_32 : decode cX10_with 32 = .ok (.bipush (-8), 2) := dd_get dm_X10_with_0 17 rfl
theorem dX10_with_34 : decode cX10_with 34 = .ok (.ireturn, 1) := dd_get dm_X10_with_0 18 rfl
theorem dX10_with_35 : decode cX10_with 35 = .ok (.aload_n 0, 1) := dd_get dm_X10_with_0 19 rfl
theorem dX10_with_36 : decode cX10_with 36 = .ok (.iload_n 3, 1) := dd_get dm_X10_with_0 20 rfl
theorem dX10_with_37 : decode cX10_with 37 = .ok (.ifCond .eq 7, 3) := dd_get dm_X10_with_0 21 rfl
theorem dX10_with_40 : decode cX10_with 40 = .ok (.iconst 2, 1) := dd_get dm_X10_with_0 22 rfl
theorem dX10_with_41 : decode cX10_with 41 = .ok (.goto 4, 3) := dd_get dm_X10_with_0 23 rfl
theorem dX10_with_44 : decode cX10_with 44 = .ok (.iconst 3, 1) := dd_get dm_X10_with_0 24 rfl
theorem dX10_with_45 : decode cX10_with 45 = .ok (.iload_n 1, 1) := dd_get dm_X10_with_0 25 rfl
theorem dX10_with_46 : decode cX10_with 46 = .ok (.iload_n 2, 1) := dd_get dm_X10_with_0 26 rfl
theorem dX10_with_47 : decode cX10_with 47 = .ok (.invokevirtual 175, 3) := dd_get dm_X10_with_0 27 rfl
theorem dX10_with_50 : decode cX10_with 50 = .ok (.istore 4, 2) := dd_get dm_X10_with_0 28 rfl
theorem dX10_with_52 : decode cX10_with 52 = .ok (.iload 4, 2) := dd_get dm_X10_with_0 29 rfl
theorem dX10_with_54 : decode cX10_with 54 = .ok (.ldc 102, 2) := dd_get dm_X10_with_0 30 rfl
theorem dX10_with_56 : decode cX10_with 56 = .ok (.if_icmp .ne 8, 3) := dd_get dm_X10_with_0 31 rfl
theorem dX10_with_59 : decode cX10_with 59 = .ok (.bipush (-7), 2) := dd_get dm_X10_with_0 32 rfl
theorem dX10_with_61 : decode cX10_with 61 = .ok (.goto 5, 3) := dd_get dm_X10_with_0 33 rfl
theorem dX10_with_64 : decode cX10_with 64 = .ok (.iload 4, 2) := dd_get dm_X10_with_0 34 rfl
theorem dX10_with_66 : decode cX10_with 66 = .ok (.ireturn, 1) := dd_get dm_X10_with_0 35 rfl
theorem dm_X10_put_0 : (([(0, .aload_n 0, 1), (1, .iload_n 1, 1), (2, .invokevirtual 110, 3), (5, .ifCond .ne 5, 3), (8, .iconst (-1), 1), (9, .ireturn, 1), (10, .aload_n 0, 1), (11, .getfield 45, 3), (14, .iload_n 1, 1), (15, .baload, 1), (16, .ifCond .ne 18, 3), (19, .aload_n 0, 1), (20, .getfield 51, 3), (23, .aload_n 0, 1), (24, .getfield 117, 3), (27, .iload_n 1, 1), (28, .invokestatic 149, 3), (31, .ifCond .lt 6, 3), (34, .bipush (-4), 2), (36, .ireturn, 1), (37, .aload_n 0, 1), (38, .getfield 51, 3), (41, .aload_n 0, 1), (42, .getfield 117, 3), (45, .iload_n 1, 1), (46, .iastore, 1), (47, .aload_n 0, 1), (48, .dup, 1), (49, .getfield 117, 3), (52, .iconst 1, 1), (53, .iadd, 1), (54, .putfield 117, 3), (57, .aload_n 0, 1), (58, .getfield 117, 3), (61, .ireturn, 1)] : List (Nat × Instr × Nat)).all fun q => decide (decode cX10_put q.1 = .ok (q.2.1, q.2.2))) = true := by decide +kernel
theorem dX10_put_0 : decode cX10_put 0 = .ok (.aload_n 0, 1) := dd_get dm_X10_put_0 0 rfl
theorem dX10_put_1 : decode cX10_put 1 = .ok (.iload_n 1, 1) := dd_get dm_X10_put_0 1 rfl
theorem dX10_put_2 : decode cX10_put 2 = .ok (.invokevirtual 110, 3) := dd_get dm_X10_put_0 2 rfl
theorem dX10_put_5 : decode cX10_put 5 = .ok (.ifCond .ne 5, 3) := dd_get dm_X10_put_0 3 rfl
theorem dX10_put_8 : decode cX10_put 8 = .ok (.iconst (-1), 1) := dd_get dm_X10_put_0 4 rfl
theorem dX10_put_9 : decode cX10_put 9 = .ok (.ireturn, 1) := dd_get dm_X10_put_0 5 rfl
theorem dX10_put_10 : decode cX10_put 10 = .ok (.aload_n 0, 1) := dd_get dm_X10_put_0 6 rfl
theorem dX10_put_11 : decode cX10_put 11 = .ok (.getfield 45, 3) := dd_get dm_X10_put_0 7 rfl
theorem dX10_put_14 : decode cX10_put 14 = .ok (.iload_n 1, 1) := dd_get dm_X10_put_0 8 rfl
theorem dX10_put_15 : decode cX10_put 15 = .ok (.baload, 1) := dd_get dm_X10_put_0 9 rfl
theorem dX10_put_16 : decode cX10_put 16 = .ok (.ifCond .ne 18, 3) := dd_get dm_X10_put_0 10 rfl
theorem dX10_put_19 : decode cX10_put 19 = .ok (.aload_n 0, 1) := dd_get dm_X10_put_0 11 rfl
theorem dX10_put_20 : decode cX10_put 20 = .ok (.getfield 51, 3) := dd_get dm_X10_put_0 12 rfl
theorem dX10_put_23 : decode cX10_put 23 = .ok (.aload_n 0, 1) := dd_get dm_X10_put_0 13 rfl
theorem dX10_put_24 : decode cX10_put 24 = .ok (.getfield 117, 3) := dd_get dm_X10_put_0 14 rfl
theorem dX10_put_27 : decode cX10_put 27 = .ok (.iload_n 1, 1) := dd_get dm_X10_put_0 15 rfl
theorem dX10_put_28 : decode cX10_put 28 = .ok (.invokestatic 149, 3) := dd_get dm_X10_put_0 16 rfl
theorem dX10_put_31 : decode cX10_put 31 = .ok (.ifCond .lt 6, 3) := dd_get dm_X10_put_0 17 rfl
theorem dX10_put_34 : decode cX10_put 34 = .ok (.bipush (-4), 2) := dd_get dm_X10_put_0 18 rfl
theorem dX10_put_36 : decode cX10_put 36 = .ok (.ireturn, 1) := dd_get dm_X10_put_0 19 rfl
theorem dX10_put_37 : decode cX10_put 37 = .ok (.aload_n 0, 1) := dd_get dm_X10_put_0 20 rfl
theorem dX10_put_38 : decode cX10_put 38 = .ok (.getfield 51, 3) := dd_get dm_X10_put_0 21 rfl
theorem dX10_put_41 : decode cX10_put 41 = .ok (.aload_n 0, 1) := dd_get dm_X10_put_0 22 rfl
theorem dX10_put_42 : decode cX10_put 42 = .ok (.getfield 117, 3) := dd_get dm_X10_put_0 23 rfl
theorem dX10_put_45 : decode cX10_put 45 = .ok (.iload_n 1, 1) := dd_get dm_X10_put_0 24 rfl
theorem dX10_put_46 : decode cX10_put 46 = .ok (.iastore, 1) := dd_get dm_X10_put_0 25 rfl
theorem dX10_put_47 : decode cX10_put 47 = .ok (.aload_n 0, 1) := dd_get dm_X10_put_0 26 rfl
theorem dX10_put_48 : decode cX10_put 48 = .ok (.dup, 1) := dd_get dm_X10_put_0 27 rfl
theorem dX10_put_49 : decode cX10_put 49 = .ok (.getfield 117, 3) := dd_get dm_X10_put_0 28 rfl
theorem dX10_put_52 : decode cX10_put 52 = .ok (.iconst 1, 1) := dd_get dm_X10_put_0 29 rfl
theorem dX10_put_53 : decode cX10_put 53 = .ok (.iadd, 1) := dd_get dm_X10_put_0 30 rfl
theorem dX10_put_54 : decode cX10_put 54 = .ok (.putfield 117, 3) := dd_get dm_X10_put_0 31 rfl
theorem dX10_put_57 : decode cX10_put 57 = .ok (.aload_n 0, 1) := dd_get dm_X10_put_0 32 rfl
theorem dX10_put_58 : decode cX10_put 58 = .ok (.getfield 117, 3) := dd_get dm_X10_put_0 33 rfl
theorem dX10_put_61 : decode cX10_put 61 = .ok (.ireturn, 1) := dd_get dm_X10_put_0 34 rfl
theorem dm_X10_clear_0 : (([(0, .aload_n 0, 1), (1, .getfield 117, 3), (4, .istore_n 1, 1), (5, .aload_n 0, 1), (6, .iconst 0, 1), (7, .putfield 117, 3), (10, .iload_n 1, 1), (11, .ireturn, 1)] : List (Nat × Instr × Nat)).all fun q => decide (decode cX10_clear q.1 = .ok (q.2.1, q.2.2))) = true := by decide +kernel
theorem dX10_clear_0 : decode cX10_clear 0 = .ok (.aload_n 0, 1) := dd_get dm_X10_clear_0 0 rfl
theorem dX10_clear_1 : decode cX10_clear 1 = .ok (.getfield 117, 3) := dd_get dm_X10_clear_0 1 rfl
theorem dX10_clear_4 : decode cX10_clear 4 = .ok (.istore_n 1, 1) := dd_get dm_X10_clear_0 2 rfl
theorem dX10_clear_5 : decode cX10_clear 5 = .ok (.aload_n 0, 1) := dd_get dm_X10_clear_0 3 rfl
theorem dX10_clear_6 : decode cX10_clear 6 = .ok (.iconst 0, 1) := dd_get dm_X10_clear_0 4 rfl
theorem dX10_clear_7 : decode cX10_clear 7 = .ok (.putfield 117, 3) := dd_get dm_X10_clear_0 5 rfl
theorem dX10_clear_10 : decode cX10_clear 10 = .ok (.iload_n 1, 1) := dd_get dm_X10_clear_0 6 rfl
theorem dX10_clear_11 : decode cX10_clear 11 = .ok (.ireturn, 1) := dd_get dm_X10_clear_0 7 rfl
theorem dm_X10_at_0 : (([(0, .iload_n 1, 1), (1, .ifCond .lt 11, 3), (4, .iload_n 1, 1), (5, .aload_n 0, 1), (6, .getfield 117, 3), (9, .if_icmp .lt 7, 3), (12, .iconst (-1), 1), (13, .goto 9, 3), (16, .aload_n 0, 1), (17, .getfield 51, 3), (20, .iload_n 1, 1), (21, .iaload, 1), (22, .ireturn, 1)] : List (Nat × Instr × Nat)).all fun q => decide (decode cX10_at q.1 = .ok (q.2.1, q.2.2))) = true := by decide +kernel
theorem dX10_at_0 : decode cX10_at 0 = .ok (.iload_n 1, 1) := dd_get dm_X10_at_0 0 rfl
theorem dX10_at_1 : decode cX10_at 1 = .ok (.ifCond .lt 11, 3) := dd_get dm_X10_at_0 1 rfl
theorem dX10_at_4 : decode cX10_at 4 = .ok (.iload_n 1, 1) := dd_get dm_X10_at_0 2 rfl
theorem dX10_at_5 : decode cX10_at 5 = .ok (.aload_n 0, 1) := dd_get dm_X10_at_0 3 rfl
theorem dX10_at_6 : decode cX10_at 6 = .ok (.getfield 117, 3) := dd_get dm_X10_at_0 4 rfl
theorem dX10_at_9 : decode cX10_at 9 = .ok (.if_icmp .lt 7, 3) := dd_get dm_X10_at_0 5 rfl
theorem dX10_at_12 : decode cX10_at 12 = .ok (.iconst (-1), 1) := dd_get dm_X10_at_0 6 rfl
theorem dX10_at_13 : decode cX10_at 13 = .ok (.goto 9, 3) := dd_get dm_X10_at_0 7 rfl
theorem dX10_at_16 : decode cX10_at 16 = .ok (.aload_n 0, 1) := dd_get dm_X10_at_0 8 rfl
theorem dX10_at_17 : decode cX10_at 17 = .ok (.getfield 51, 3) := dd_get dm_X10_at_0 9 rfl
theorem dX10_at_20 : decode cX10_at 20 = .ok (.iload_n 1, 1) := dd_get dm_X10_at_0 10 rfl
theorem dX10_at_21 : decode cX10_at 21 = .ok (.iaload, 1) := dd_get dm_X10_at_0 11 rfl
theorem dX10_at_22 : decode cX10_at 22 = .ok (.ireturn, 1) := dd_get dm_X10_at_0 12 rfl
theorem dm_X10_length_0 : (([(0, .aload_n 0, 1), (1, .invokevirtual 179, 3), (4, .ifCond .ne 6, 3), (7, .bipush (-4), 2), (9, .ireturn, 1), (10, .aload_n 0, 1), (11, .aload_n 0, 1), (12, .getfield 51, 3), (15, .aload_n 0, 1), (16, .getfield 117, 3), (19, .invokevirtual 161, 3), (22, .istore_n 1, 1), (23, .iload_n 1, 1), (24, .ldc 102, 2), (26, .if_icmp .ne 8, 3), (29, .bipush (-10), 2), (31, .goto 4, 3), (34, .iload_n 1, 1), (35, .ireturn, 1)] : List (Nat × Instr × Nat)).all fun q => decide (decode cX10_length q.1 = .ok (q.2.1, q.2.2))) = true := by decide +kernel
theorem dX10_length_0 : decode cX10_length 0 = .ok (.aload_n 0, 1) := dd_get dm_X10_length_0 0 rfl
theorem dX10_length_1 : decode cX10_length 1 = .ok (.invokevirtual 179, 3) := dd_get dm_X10_length_0 1 rfl
theorem dX10_length_4 : decode cX10_length 4 = .ok (.ifCond .ne 6, 3) := dd_get dm_X10_length_0 2 rfl
theorem dX10_length_7 : decode cX10_length 7 = .ok (.bipush (-4), 2) := dd_get dm_X10_length_0 3 rfl
theorem dX10_length_9 : decode cX10_length 9 = .ok (.ireturn, 1) := dd_get dm_X10_length_0 4 rfl
theorem dX10_length_10 : decode cX10_length 10 = .ok (.aload_n 0, 1) := dd_get dm_X10_length_0 5 rfl
theorem dX10_length_11 : decode cX10_length 11 = .ok (.aload_n 0, 1) := dd_get dm_X10_length_0 6 rfl
theorem dX10_length_12 : decode cX10_length 12 = .ok (.getfield 51, 3) := dd_get dm_X10_length_0 7 rfl
theorem dX10_length_15 : decode cX10_length 15 = .ok (.aload_n 0, 1) := dd_get dm_X10_length_0 8 rfl
theorem dX10_length_16 : decode cX10_length 16 = .ok (.getfield 117, 3) := dd_get dm_X10_length_0 9 rfl
theorem dX10_length_19 : decode cX10_length 19 = .ok (.invokevirtual 161, 3) := dd_get dm_X10_length_0 10 rfl
theorem dX10_length_22 : decode cX10_length 22 = .ok (.istore_n 1, 1) := dd_get dm_X10_length_0 11 rfl
theorem dX10_length_23 : decode cX10_length 23 = .ok (.iload_n 1, 1) := dd_get dm_X10_length_0 12 rfl
theorem dX10_length_24 : decode cX10_length 24 = .ok (.ldc 102, 2) := dd_get dm_X10_length_0 13 rfl
theorem dX10_length_26 : decode cX10_length 26 = .ok (.if_icmp .ne 8, 3) := dd_get dm_X10_length_0 14 rfl
theorem dX10_length_29 : decode cX10_length 29 = .ok (.bipush (-10), 2) := dd_get dm_X10_length_0 15 rfl
theorem dX10_length_31 : decode cX10_length 31 = .ok (.goto 4, 3) := dd_get dm_X10_length_0 16 rfl
theorem dX10_length_34 : decode cX10_length 34 = .ok (.iload_n 1, 1) := dd_get dm_X10_length_0 17 rfl
theorem dX10_length_35 : decode cX10_length 35 = .ok (.ireturn, 1) := dd_get dm_X10_length_0 18 rfl
theorem dm_X10_keeps_0 : (([(0, .aload_n 0, 1), (1, .invokevirtual 179, 3), (4, .ifCond .ne 8, 3), (7, .bipush (-4), 2), (9, .goto 23, 3), (12, .aload_n 0, 1), (13, .aload_n 0, 1), (14, .getfield 51, 3), (17, .aload_n 0, 1), (18, .getfield 117, 3), (21, .invokevirtual 165, 3), (24, .ifCond .eq 7, 3), (27, .iconst 1, 1), (28, .goto 4, 3), (31, .iconst 0, 1), (32, .ireturn, 1)] : List (Nat × Instr × Nat)).all fun q => decide (decode cX10_keeps q.1 = .ok (q.2.1, q.2.2))) = true := by decide +kernel
theorem dX10_keeps_0 : decode cX10_keeps 0 = .ok (.aload_n 0, 1) := dd_get dm_X10_keeps_0 0 rfl
theorem dX10_keeps_1 : decode cX10_keeps 1 = .ok (.invokevirtual 179, 3) := dd_get dm_X10_keeps_0 1 rfl
theorem dX10_keeps_4 : decode cX10_keeps 4 = .ok (.ifCond .ne 8, 3) := dd_get dm_X10_keeps_0 2 rfl
theorem dX10_keeps_7 : decode cX10_keeps 7 = .ok (.bipush (-4), 2) := dd_get dm_X10_keeps_0 3 rfl
theorem dX10_keeps_9 : decode cX10_keeps 9 = .ok (.goto 23, 3) := dd_get dm_X10_keeps_0 4 rfl
theorem dX10_keeps_12 : decode cX10_keeps 12 = .ok (.aload_n 0, 1) := dd_get dm_X10_keeps_0 5 rfl
theorem dX10_keeps_13 : decode cX10_keeps 13 = .ok (.aload_n 0, 1) := dd_get dm_X10_keeps_0 6 rfl
theorem dX10_keeps_14 : decode cX10_keeps 14 = .ok (.getfield 51, 3) := dd_get dm_X10_keeps_0 7 rfl
theorem dX10_keeps_17 : decode cX10_keeps 17 = .ok (.aload_n 0, 1) := dd_get dm_X10_keeps_0 8 rfl
theorem dX10_keeps_18 : decode cX10_keeps 18 = .ok (.getfield 117, 3) := dd_get dm_X10_keeps_0 9 rfl
theorem dX10_keeps_21 : decode cX10_keeps 21 = .ok (.invokevirtual 165, 3) := dd_get dm_X10_keeps_0 10 rfl
theorem dX10_keeps_24 : decode cX10_keeps 24 = .ok (.ifCond .eq 7, 3) := dd_get dm_X10_keeps_0 11 rfl
theorem dX10_keeps_27 : decode cX10_keeps 27 = .ok (.iconst 1, 1) := dd_get dm_X10_keeps_0 12 rfl
theorem dX10_keeps_28 : decode cX10_keeps 28 = .ok (.goto 4, 3) := dd_get dm_X10_keeps_0 13 rfl
theorem dX10_keeps_31 : decode cX10_keeps 31 = .ok (.iconst 0, 1) := dd_get dm_X10_keeps_0 14 rfl
theorem dX10_keeps_32 : decode cX10_keeps 32 = .ok (.ireturn, 1) := dd_get dm_X10_keeps_0 15 rfl
theorem dm_X10_turnRound_0 : (([(0, .iload_n 1, 1), (1, .iconst 1, 1), (2, .iadd, 1), (3, .istore_n 3, 1), (4, .iload_n 2, 1), (5, .istore 4, 2), (7, .iload_n 3, 1), (8, .iload 4, 2), (10, .if_icmp .ge 42, 3), (13, .aload_n 0, 1), (14, .getfield 51, 3), (17, .iload_n 3, 1), (18, .iaload, 1), (19, .istore 5, 2), (21, .aload_n 0, 1), (22, .getfield 51, 3), (25, .iload_n 3, 1), (26, .aload_n 0, 1), (27, .getfield 51, 3), (30, .iload 4, 2), (32, .iaload, 1), (33, .iastore, 1), (34, .aload_n 0, 1), (35, .getfield 51, 3), (38, .iload 4, 2), (40, .iload 5, 2), (42, .iastore, 1), (43, .iinc 3 1, 3), (46, .iinc 4 (-1), 3), (49, .goto (-42), 3), (52, .return_, 1)] : List (Nat × Instr × Nat)).all fun q => decide (decode cX10_turnRound q.1 = .ok (q.2.1, q.2.2))) = true := by decide +kernel
theorem dX10_turnRound_0 : decode cX10_turnRound 0 = .ok (.iload_n 1, 1) := dd_get dm_X10_turnRound_0 0 rfl
theorem dX10_turnRound_1 : decode cX10_turnRound 1 = .ok (.iconst 1, 1) := dd_get dm_X10_turnRound_0 1 rfl
theorem dX10_turnRound_2 : decode cX10_turnRound 2 = .ok (.iadd, 1) := dd_get dm_X10_turnRound_0 2 rfl
theorem dX10_turnRound_3 : decode cX10_turnRound 3 = .ok (.istore_n 3, 1) := dd_get dm_X10_turnRound_0 3 rfl
theorem dX10_turnRound_4 : decode cX10_turnRound 4 = .ok (.iload_n 2, 1) := dd_get dm_X10_turnRound_0 4 rfl
theorem dX10_turnRound_5 : decode cX10_turnRound 5 = .ok (.istore 4, 2) := dd_get dm_X10_turnRound_0 5 rfl
theorem dX10_turnRound_7 : decode cX10_turnRound 7 = .ok (.iload_n 3, 1) := dd_get dm_X10_turnRound_0 6 rfl
theorem dX10_turnRound_8 : decode cX10_turnRound 8 = .ok (.iload 4, 2) := dd_get dm_X10_turnRound_0 7 rfl
theorem dX10_turnRound_10 : decode cX10_turnRound 10 = .ok (.if_icmp .ge 42, 3) := dd_get dm_X10_turnRound_0 8 rfl
theorem dX10_turnRound_13 : decode cX10_turnRound 13 = .ok (.aload_n 0, 1) := dd_get dm_X10_turnRound_0 9 rfl
theorem dX10_turnRound_14 : decode cX10_turnRound 14 = .ok (.getfield 51, 3) := dd_get dm_X10_turnRound_0 10 rfl
theorem dX10_turnRound_17 : decode cX10_turnRound 17 = .ok (.iload_n 3, 1) := dd_get dm_X10_turnRound_0 11 rfl
theorem dX10_turnRound_18 : decode cX10_turnRound 18 = .ok (.iaload, 1) := dd_get dm_X10_turnRound_0 12 rfl
theorem dX10_turnRound_19 : decode cX10_turnRound 19 = .ok (.istore 5, 2) := dd_get dm_X10_turnRound_0 13 rfl
theorem dX10_turnRound_21 : decode cX10_turnRound 21 = .ok (.aload_n 0, 1) := dd_get dm_X10_turnRound_0 14 rfl
theorem dX10_turnRound_22 : decode cX10_turnRound 22 = .ok (.getfield 51, 3) := dd_get dm_X10_turnRound_0 15 rfl
theorem dX10_turnRound_25 : decode cX10_turnRound 25 = .ok (.iload_n 3, 1) := dd_get dm_X10_turnRound_0 16 rfl
theorem dX10_turnRound_26 : decode cX10_turnRound 26 = .ok (.aload_n 0, 1) := dd_get dm_X10_turnRound_0 17 rfl
theorem dX10_turnRound_27 : decode cX10_turnRound 27 = .ok (.getfield 51, 3) := dd_get dm_X10_turnRound_0 18 rfl
theorem dX10_turnRound_30 : decode cX10_turnRound 30 = .ok (.iload 4, 2) := dd_get dm_X10_turnRound_0 19 rfl
theorem dX10_turnRound_32 : decode cX10_turnRound 32 = .ok (.iaload, 1) := dd_get dm_X10_turnRound_0 20 rfl
theorem dX10_turnRound_33 : decode cX10_turnRound 33 = .ok (.iastore, 1) := dd_get dm_X10_turnRound_0 21 rfl
theorem dX10_turnRound_34 : decode cX10_turnRound 34 = .ok (.aload_n 0, 1) := dd_get dm_X10_turnRound_0 22 rfl
theorem dX10_turnRound_35 : decode cX10_turnRound 35 = .ok (.getfield 51, 3) := dd_get dm_X10_turnRound_0 23 rfl
theorem dX10_turnRound_38 : decode cX10_turnRound 38 = .ok (.iload 4, 2) := dd_get dm_X10_turnRound_0 24 rfl
theorem dX10_turnRound_40 : decode cX10_turnRound 40 = .ok (.iload 5, 2) := dd_get dm_X10_turnRound_0 25 rfl
theorem dX10_turnRound_42 : decode cX10_turnRound 42 = .ok (.iastore, 1) := dd_get dm_X10_turnRound_0 26 rfl
theorem dX10_turnRound_43 : decode cX10_turnRound 43 = .ok (.iinc 3 1, 3) := dd_get dm_X10_turnRound_0 27 rfl
theorem dX10_turnRound_46 : decode cX10_turnRound 46 = .ok (.iinc 4 (-1), 3) := dd_get dm_X10_turnRound_0 28 rfl
theorem dX10_turnRound_49 : decode cX10_turnRound 49 = .ok (.goto (-42), 3) := dd_get dm_X10_turnRound_0 29 rfl
theorem dX10_turnRound_52 : decode cX10_turnRound 52 = .ok (.return_, 1) := dd_get dm_X10_turnRound_0 30 rfl
theorem dm_X10_turn_0 : (([(0, .aload_n 0, 1), (1, .invokevirtual 179, 3), (4, .ifCond .ne 6, 3), (7, .bipush (-4), 2), (9, .ireturn, 1), (10, .iload_n 1, 1), (11, .ifCond .lt 16, 3), (14, .iload_n 2, 1), (15, .iload_n 1, 1), (16, .if_icmp .le 11, 3), (19, .iload_n 2, 1), (20, .aload_n 0, 1), (21, .getfield 117, 3), (24, .if_icmp .lt 5, 3), (27, .iconst (-1), 1), (28, .ireturn, 1), (29, .aload_n 0, 1), (30, .iload_n 1, 1), (31, .iload_n 2, 1), (32, .invokevirtual 189, 3), (35, .iconst 1, 1), (36, .ireturn, 1)] : List (Nat × Instr × Nat)).all fun q => decide (decode cX10_turn q.1 = .ok (q.2.1, q.2.2))) = true := by decide +kernel
theorem dX10_turn_0 : decode cX10_turn 0 = .ok (.aload_n 0, 1) := dd_get dm_X10_turn_0 0 rfl
theorem dX10_turn_1 : decode cX10_turn 1 = .ok (.invokevirtual 179, 3) := dd_get dm_X10_turn_0 1 rfl
theorem dX10_turn_4 : decode cX10_turn 4 = .ok (.ifCond .ne 6, 3) := dd_get dm_X10_turn_0 2 rfl
theorem dX10_turn_7 : decode cX10_turn 7 = .ok (.bipush (-4), 2) := dd_get dm_X10_turn_0 3 rfl
theorem dX10_turn_9 : decode cX10_turn 9 = .ok (.ireturn, 1) := dd_get dm_X10_turn_0 4 rfl
theorem dX10_turn_10 : decode cX10_turn 10 = .ok (.iload_n 1, 1) := dd_get dm_X10_turn_0 5 rfl
theorem dX10_turn_11 : decode cX10_turn 11 = .ok (.ifCond .lt 16, 3) := dd_get dm_X10_turn_0 6 rfl
theorem dX10_turn_14 : decode cX10_turn 14 = .ok (.iload_n 2, 1) := dd_get dm_X10_turn_0 7 rfl
theorem dX10_turn_15 : decode cX10_turn 15 = .ok (.iload_n 1, 1) := dd_get dm_X10_turn_0 8 rfl
theorem dX10_turn_16 : decode cX10_turn 16 = .ok (.if_icmp .le 11, 3) := dd_get dm_X10_turn_0 9 rfl
theorem dX10_turn_19 : decode cX10_turn 19 = .ok (.iload_n 2, 1) := dd_get dm_X10_turn_0 10 rfl
theorem dX10_turn_20 : decode cX10_turn 20 = .ok (.aload_n 0, 1) := dd_get dm_X10_turn_0 11 rfl
theorem dX10_turn_21 : decode cX10_turn 21 = .ok (.getfield 117, 3) := dd_get dm_X10_turn_0 12 rfl
theorem dX10_turn_24 : decode cX10_turn 24 = .ok (.if_icmp .lt 5, 3) := dd_get dm_X10_turn_0 13 rfl
theorem dX10_turn_27 : decode cX10_turn 27 = .ok (.iconst (-1), 1) := dd_get dm_X10_turn_0 14 rfl
theorem dX10_turn_28 : decode cX10_turn 28 = .ok (.ireturn, 1) := dd_get dm_X10_turn_0 15 rfl
theorem dX10_turn_29 : decode cX10_turn 29 = .ok (.aload_n 0, 1) := dd_get dm_X10_turn_0 16 rfl
theorem dX10_turn_30 : decode cX10_turn 30 = .ok (.iload_n 1, 1) := dd_get dm_X10_turn_0 17 rfl
theorem dX10_turn_31 : decode cX10_turn 31 = .ok (.iload_n 2, 1) := dd_get dm_X10_turn_0 18 rfl
theorem dX10_turn_32 : decode cX10_turn 32 = .ok (.invokevirtual 189, 3) := dd_get dm_X10_turn_0 19 rfl
theorem dX10_turn_35 : decode cX10_turn 35 = .ok (.iconst 1, 1) := dd_get dm_X10_turn_0 20 rfl
theorem dX10_turn_36 : decode cX10_turn 36 = .ok (.ireturn, 1) := dd_get dm_X10_turn_0 21 rfl
theorem dm_X10_betters_0 : (([(0, .aload_n 0, 1), (1, .aload_n 0, 1), (2, .getfield 51, 3), (5, .aload_n 0, 1), (6, .getfield 117, 3), (9, .invokevirtual 161, 3), (12, .istore_n 1, 1), (13, .aload_n 0, 1), (14, .aload_n 0, 1), (15, .getfield 51, 3), (18, .aload_n 0, 1), (19, .getfield 117, 3), (22, .invokevirtual 165, 3), (25, .istore_n 2, 1), (26, .iconst 0, 1), (27, .istore_n 3, 1), (28, .iload_n 3, 1), (29, .aload_n 0, 1), (30, .getfield 117, 3), (33, .if_icmp .ge 80, 3), (36, .iload_n 3, 1), (37, .iconst 1, 1), (38, .iadd, 1), (39, .istore 4, 2), (41, .iload 4, 2), (43, .aload_n 0, 1), (44, .getfield 117, 3), (47, .if_icmp .ge 60, 3), (50, .aload_n 0, 1), (51, .iload_n 3, 1), (52, .iload 4, 2), (54, .invokevirtual 189, 3), (57, .aload_n 0, 1), (58, .aload_n 0, 1), (59, .getfield 51, 3), (62, .aload_n 0, 1), (63, .getfield 117, 3), (66, .invokevirtual 161, 3), (69, .iload_n 1, 1), (70, .if_icmp .ge 24, 3), (73, .iload_n 2, 1), (74, .ifCond .eq 18, 3), (77, .aload_n 0, 1), (78, .aload_n 0, 1), (79, .getfield 51, 3), (82, .aload_n 0, 1), (83, .getfield 117, 3), (86, .invokevirtual 165, 3), (89, .ifCond .eq 5, 3), (92, .iconst 1, 1), (93, .ireturn, 1), (94, .aload_n 0, 1), (95, .iload_n 3, 1), (96, .iload 4, 2), (98, .invokevirtual 189, 3), (101, .iinc 4 1, 3), (104, .goto (-63), 3), (107, .iinc 3 1, 3), (110, .goto (-82), 3), (113, .iconst 0, 1)] : List (Nat × Instr × Nat)).all fun q => decide (decode cX10_betters q.1 = .ok (q.2.1, q.2.2))) = true := by decide +kernel
theorem dX10_betters_0 : decode cX10_betters 0 = .ok (.aload_n 0, 1) := dd_get dm_X10_betters_0 0 rfl
theorem dX10_betters_1 : decode cX10_betters 1 = .ok (.aload_n 0, 1) := dd_get dm_X10_betters_0 1 rfl
theorem dX10_betters_2 : decode cX10_betters 2 = .ok (.getfield 51, 3) := dd_get dm_X10_betters_0 2 rfl
theorem dX10_betters_5 : decode cX10_betters 5 = .ok (.aload_n 0, 1) := dd_get dm_X10_betters_0 3 rfl
theorem dX10_betters_6 : decode cX10_betters 6 = .ok (.getfield 117, 3) := dd_get dm_X10_betters_0 4 rfl
theorem dX10_betters_9 : decode cX10_betters 9 = .ok (.invokevirtual 161, 3) := dd_get dm_X10_betters_0 5 rfl
theorem dX10_betters_12 : decode cX10_betters 12 = .ok (.istore_n 1, 1) := dd_get dm_X10_betters_0 6 rfl
theorem dX10_betters_13 : decode cX10_betters 13 = .ok (.aload_n 0, 1) := dd_get dm_X10_betters_0 7 rfl
theorem dX10_betters_14 : decode cX10_betters 14 = .ok (.aload_n 0, 1) := dd_get dm_X10_betters_0 8 rfl
theorem dX10_betters_15 : decode cX10_betters 15 = .ok (.getfield 51, 3) := dd_get dm_X10_betters_0 9 rfl
theorem dX10_betters_18 : decode cX10_betters 18 = .ok (.aload_n 0, 1) := dd_get dm_X10_betters_0 10 rfl
theorem dX10_betters_19 : decode cX10_betters 19 = .ok (.getfield 117, 3) := dd_get dm_X10_betters_0 11 rfl
theorem dX10_betters_22 : decode cX10_betters 22 = .ok (.invokevirtual 165, 3) := dd_get dm_X10_betters_0 12 rfl
theorem dX10_betters_25 : decode cX10_betters 25 = .ok (.istore_n 2, 1) := dd_get dm_X10_betters_0 13 rfl
theorem dX10_betters_26 : decode cX10_betters 26 = .ok (.iconst 0, 1) := dd_get dm_X10_betters_0 14 rfl
theorem dX10_betters_27 : decode cX10_betters 27 = .ok (.istore_n 3, 1) := dd_get dm_X10_betters_0 15 rfl
theorem dX10_betters_28 : decode cX10_betters 28 = .ok (.iload_n 3, 1) := dd_get dm_X10_betters_0 16 rfl
theorem dX10_betters_29 : decode cX10_betters 29 = .ok (.aload_n 0, 1) := dd_get dm_X10_betters_0 17 rfl
theorem dX10_betters_30 : decode cX10_betters 30 = .ok (.getfield 117, 3) := dd_get dm_X10_betters_0 18 rfl
theorem dX10_betters_33 : decode cX10_betters 33 = .ok (.if_icmp .ge 80, 3) := dd_get dm_X10_betters_0 19 rfl
theorem dX10_betters_36 : decode cX10_betters 36 = .ok (.iload_n 3, 1) := dd_get dm_X10_betters_0 20 rfl
theorem dX10_betters_37 : decode cX10_betters 37 = .ok (.iconst 1, 1) := dd_get dm_X10_betters_0 21 rfl
theorem dX10_betters_38 : decode cX10_betters 38 = .ok (.iadd, 1) := dd_get dm_X10_betters_0 22 rfl
theorem dX10_betters_39 : decode cX10_betters 39 = .ok (.istore 4, 2) := dd_get dm_X10_betters_0 23 rfl
theorem dX10_betters_41 : decode cX10_betters 41 = .ok (.iload 4, 2) := dd_get dm_X10_betters_0 24 rfl
theorem dX10_betters_43 : decode cX10_betters 43 = .ok (.aload_n 0, 1) := dd_get dm_X10_betters_0 25 rfl
theorem dX10_betters_44 : decode cX10_betters 44 = .ok (.getfield 117, 3) := dd_get dm_X10_betters_0 26 rfl
theorem dX10_betters_47 : decode cX10_betters 47 = .ok (.if_icmp .ge 60, 3) := dd_get dm_X10_betters_0 27 rfl
theorem dX10_betters_50 : decode cX10_betters 50 = .ok (.aload_n 0, 1) := dd_get dm_X10_betters_0 28 rfl
theorem dX10_betters_51 : decode cX10_betters 51 = .ok (.iload_n 3, 1) := dd_get dm_X10_betters_0 29 rfl
theorem dX10_betters_52 : decode cX10_betters 52 = .ok (.iload 4, 2) := dd_get dm_X10_betters_0 30 rfl
theorem dX10_betters_54 : decode cX10_betters 54 = .ok (.invokevirtual 189, 3) := dd_get dm_X10_betters_0 31 rfl
theorem dX10_betters_57 : decode cX10_betters 57 = .ok (.aload_n 0, 1) := dd_get dm_X10_betters_0 32 rfl
theorem dX10_betters_58 : decode cX10_betters 58 = .ok (.aload_n 0, 1) := dd_get dm_X10_betters_0 33 rfl
theorem dX10_betters_59 : decode cX10_betters 59 = .ok (.getfield 51, 3) := dd_get dm_X10_betters_0 34 rfl
theorem dX10_betters_62 : decode cX10_betters 62 = .ok (.aload_n 0, 1) := dd_get dm_X10_betters_0 35 rfl
theorem dX10_betters_63 : decode cX10_betters 63 = .ok (.getfield 117, 3) := dd_get dm_X10_betters_0 36 rfl
theorem dX10_betters_66 : decode cX10_betters 66 = .ok (.invokevirtual 161, 3) := dd_get dm_X10_betters_0 37 rfl
theorem dX10_betters_69 : decode cX10_betters 69 = .ok (.iload_n 1, 1) := dd_get dm_X10_betters_0 38 rfl
theorem dX10_betters_70 : decode cX10_betters 70 = .ok (.if_icmp .ge 24, 3) := dd_get dm_X10_betters_0 39 rfl
theorem dX10_betters_73 : decode cX10_betters 73 = .ok (.iload_n 2, 1) := dd_get dm_X10_betters_0 40 rfl
theorem dX10_betters_74 : decode cX10_betters 74 = .ok (.ifCond .eq 18, 3) := dd_get dm_X10_betters_0 41 rfl
theorem dX10_betters_77 : decode cX10_betters 77 = .ok (.aload_n 0, 1) := dd_get dm_X10_betters_0 42 rfl
theorem dX10_betters_78 : decode cX10_betters 78 = .ok (.aload_n 0, 1) := dd_get dm_X10_betters_0 43 rfl
theorem dX10_betters_79 : decode cX10_betters 79 = .ok (.getfield 51, 3) := dd_get dm_X10_betters_0 44 rfl
theorem dX10_betters_82 : decode cX10_betters 82 = .ok (.aload_n 0, 1) := dd_get dm_X10_betters_0 45 rfl
theorem dX10_betters_83 : decode cX10_betters 83 = .ok (.getfield 117, 3) := dd_get dm_X10_betters_0 46 rfl
theorem dX10_betters_86 : decode cX10_betters 86 = .ok (.invokevirtual 165, 3) := dd_get dm_X10_betters_0 47 rfl
theorem dX10_betters_89 : decode cX10_betters 89 = .ok (.ifCond .eq 5, 3) := dd_get dm_X10_betters_0 48 rfl
theorem dX10_betters_92 : decode cX10_betters 92 = .ok (.iconst 1, 1) := dd_get dm_X10_betters_0 49 rfl
theorem dX10_betters_93 : decode cX10_betters 93 = .ok (.ireturn, 1) := dd_get dm_X10_betters_0 50 rfl
theorem dX10_betters_94 : decode cX10_betters 94 = .ok (.aload_n 0, 1) := dd_get dm_X10_betters_0 51 rfl
theorem dX10_betters_95 : decode cX10_betters 95 = .ok (.iload_n 3, 1) := dd_get dm_X10_betters_0 52 rfl
theorem dX10_betters_96 : decode cX10_betters 96 = .ok (.iload 4, 2) := dd_get dm_X10_betters_0 53 rfl
theorem dX10_betters_98 : decode cX10_betters 98 = .ok (.invokevirtual 189, 3) := dd_get dm_X10_betters_0 54 rfl
theorem dX10_betters_101 : decode cX10_betters 101 = .ok (.iinc 4 1, 3) := dd_get dm_X10_betters_0 55 rfl
theorem dX10_betters_104 : decode cX10_betters 104 = .ok (.goto (-63), 3) := dd_get dm_X10_betters_0 56 rfl
theorem dX10_betters_107 : decode cX10_betters 107 = .ok (.iinc 3 1, 3) := dd_get dm_X10_betters_0 57 rfl
theorem dX10_betters_110 : decode cX10_betters 110 = .ok (.goto (-82), 3) := dd_get dm_X10_betters_0 58 rfl
theorem dX10_betters_113 : decode cX10_betters 113 = .ok (.iconst 0, 1) := dd_get dm_X10_betters_0 59 rfl
theorem dm_X10_betters_1 : (([(114, .ireturn, 1)] : List (Nat × Instr × Nat)).all fun q => decide (decode cX10_betters q.1 = .ok (q.2.1, q.2.2))) = true := by decide +kernel
theorem dX10_betters_114 : decode cX10_betters 114 = .ok (.ireturn, 1) := dd_get dm_X10_betters_1 0 rfl
theorem dm_X10_better_0 : (([(0, .aload_n 0, 1), (1, .invokevirtual 192, 3), (4, .istore_n 1, 1), (5, .iload_n 1, 1), (6, .ifCond .ge 5, 3), (9, .iload_n 1, 1), (10, .ireturn, 1), (11, .iconst 0, 1), (12, .istore_n 2, 1), (13, .iload_n 2, 1), (14, .bipush 100, 2), (16, .if_icmp .ge 16, 3), (19, .aload_n 0, 1), (20, .invokevirtual 194, 3), (23, .ifCond .eq 9, 3), (26, .iinc 2 1, 3), (29, .goto (-16), 3), (32, .iload_n 2, 1), (33, .ireturn, 1)] : List (Nat × Instr × Nat)).all fun q => decide (decode cX10_better q.1 = .ok (q.2.1, q.2.2))) = true := by decide +kernel
theorem dX10_better_0 : decode cX10_better 0 = .ok (.aload_n 0, 1) := dd_get dm_X10_better_0 0 rfl
theorem dX10_better_1 : decode cX10_better 1 = .ok (.invokevirtual 192, 3) := dd_get dm_X10_better_0 1 rfl
theorem dX10_better_4 : decode cX10_better 4 = .ok (.istore_n 1, 1) := dd_get dm_X10_better_0 2 rfl
theorem dX10_better_5 : decode cX10_better 5 = .ok (.iload_n 1, 1) := dd_get dm_X10_better_0 3 rfl
theorem dX10_better_6 : decode cX10_better 6 = .ok (.ifCond .ge 5, 3) := dd_get dm_X10_better_0 4 rfl
theorem dX10_better_9 : decode cX10_better 9 = .ok (.iload_n 1, 1) := dd_get dm_X10_better_0 5 rfl
theorem dX10_better_10 : decode cX10_better 10 = .ok (.ireturn, 1) := dd_get dm_X10_better_0 6 rfl
theorem dX10_better_11 : decode cX10_better 11 = .ok (.iconst 0, 1) := dd_get dm_X10_better_0 7 rfl
theorem dX10_better_12 : decode cX10_better 12 = .ok (.istore_n 2, 1) := dd_get dm_X10_better_0 8 rfl
theorem dX10_better_13 : decode cX10_better 13 = .ok (.iload_n 2, 1) := dd_get dm_X10_better_0 9 rfl
theorem dX10_better_14 : decode cX10_better 14 = .ok (.bipush 100, 2) := dd_get dm_X10_better_0 10 rfl
theorem dX10_better_16 : decode cX10_better 16 = .ok (.if_icmp .ge 16, 3) := dd_get dm_X10_better_0 11 rfl
theorem dX10_better_19 : decode cX10_better 19 = .ok (.aload_n 0, 1) := dd_get dm_X10_better_0 12 rfl
theorem dX10_better_20 : decode cX10_better 20 = .ok (.invokevirtual 194, 3) := dd_get dm_X10_better_0 13 rfl
theorem dX10_better_23 : decode cX10_better 23 = .ok (.ifCond .eq 9, 3) := dd_get dm_X10_better_0 14 rfl
theorem dX10_better_26 : decode cX10_better 26 = .ok (.iinc 2 1, 3) := dd_get dm_X10_better_0 15 rfl
theorem dX10_better_29 : decode cX10_better 29 = .ok (.goto (-16), 3) := dd_get dm_X10_better_0 16 rfl
theorem dX10_better_32 : decode cX10_better 32 = .ok (.iload_n 2, 1) := dd_get dm_X10_better_0 17 rfl
theorem dX10_better_33 : decode cX10_better 33 = .ok (.ireturn, 1) := dd_get dm_X10_better_0 18 rfl
theorem dm_X10_pairOf_0 : (([(0, .iload_n 0, 1), (1, .iload_n 1, 1), (2, .if_icmp .ge 12, 3), (5, .bipush 12, 2), (7, .iload_n 0, 1), (8, .imul, 1), (9, .iload_n 1, 1), (10, .iadd, 1), (11, .goto 9, 3), (14, .bipush 12, 2), (16, .iload_n 1, 1), (17, .imul, 1), (18, .iload_n 0, 1), (19, .iadd, 1), (20, .ireturn, 1)] : List (Nat × Instr × Nat)).all fun q => decide (decode cX10_pairOf q.1 = .ok (q.2.1, q.2.2))) = true := by decide +kernel
theorem dX10_pairOf_0 : decode cX10_pairOf 0 = .ok (.iload_n 0, 1) := dd_get dm_X10_pairOf_0 0 rfl
theorem dX10_pairOf_1 : decode cX10_pairOf 1 = .ok (.iload_n 1, 1) := dd_get dm_X10_pairOf_0 1 rfl
theorem dX10_pairOf_2 : decode cX10_pairOf 2 = .ok (.if_icmp .ge 12, 3) := dd_get dm_X10_pairOf_0 2 rfl
theorem dX10_pairOf_5 : decode cX10_pairOf 5 = .ok (.bipush 12, 2) := dd_get dm_X10_pairOf_0 3 rfl
theorem dX10_pairOf_7 : decode cX10_pairOf 7 = .ok (.iload_n 0, 1) := dd_get dm_X10_pairOf_0 4 rfl
theorem dX10_pairOf_8 : decode cX10_pairOf 8 = .ok (.imul, 1) := dd_get dm_X10_pairOf_0 5 rfl
theorem dX10_pairOf_9 : decode cX10_pairOf 9 = .ok (.iload_n 1, 1) := dd_get dm_X10_pairOf_0 6 rfl
theorem dX10_pairOf_10 : decode cX10_pairOf 10 = .ok (.iadd, 1) := dd_get dm_X10_pairOf_0 7 rfl
theorem dX10_pairOf_11 : decode cX10_pairOf 11 = .ok (.goto 9, 3) := dd_get dm_X10_pairOf_0 8 rfl
theorem dX10_pairOf_14 : decode cX10_pairOf 14 = .ok (.bipush 12, 2) := dd_get dm_X10_pairOf_0 9 rfl
theorem dX10_pairOf_16 : decode cX10_pairOf 16 = .ok (.iload_n 1, 1) := dd_get dm_X10_pairOf_0 10 rfl
theorem dX10_pairOf_17 : decode cX10_pairOf 17 = .ok (.imul, 1) := dd_get dm_X10_pairOf_0 11 rfl
theorem dX10_pairOf_18 : decode cX10_pairOf 18 = .ok (.iload_n 0, 1) := dd_get dm_X10_pairOf_0 12 rfl
theorem dX10_pairOf_19 : decode cX10_pairOf 19 = .ok (.iadd, 1) := dd_get dm_X10_pairOf_0 13 rfl
theorem dX10_pairOf_20 : decode cX10_pairOf 20 = .ok (.ireturn, 1) := dd_get dm_X10_pairOf_0 14 rfl
theorem dm_X10_freeAll_0 : (([(0, .iconst 0, 1), (1, .istore_n 1, 1), (2, .iload_n 1, 1), (3, .sipush 144, 3), (6, .if_icmp .ge 16, 3), (9, .aload_n 0, 1), (10, .getfield 72, 3), (13, .iload_n 1, 1), (14, .iconst 0, 1), (15, .iastore, 1), (16, .iinc 1 1, 3), (19, .goto (-17), 3), (22, .return_, 1)] : List (Nat × Instr × Nat)).all fun q => decide (decode cX10_freeAll q.1 = .ok (q.2.1, q.2.2))) = true := by decide +kernel
theorem dX10_freeAll_0 : decode cX10_freeAll 0 = .ok (.iconst 0, 1) := dd_get dm_X10_freeAll_0 0 rfl
theorem dX10_freeAll_1 : decode cX10_freeAll 1 = .ok (.istore_n 1, 1) := dd_get dm_X10_freeAll_0 1 rfl
theorem dX10_freeAll_2 : decode cX10_freeAll 2 = .ok (.iload_n 1, 1) := dd_get dm_X10_freeAll_0 2 rfl
theorem dX10_freeAll_3 : decode cX10_freeAll 3 = .ok (.sipush 144, 3) := dd_get dm_X10_freeAll_0 3 rfl
theorem dX10_freeAll_6 : decode cX10_freeAll 6 = .ok (.if_icmp .ge 16, 3) := dd_get dm_X10_freeAll_0 4 rfl
theorem dX10_freeAll_9 : decode cX10_freeAll 9 = .ok (.aload_n 0, 1) := dd_get dm_X10_freeAll_0 5 rfl
theorem dX10_freeAll_10 : decode cX10_freeAll 10 = .ok (.getfield 72, 3) := dd_get dm_X10_freeAll_0 6 rfl
theorem dX10_freeAll_13 : decode cX10_freeAll 13 = .ok (.iload_n 1, 1) := dd_get dm_X10_freeAll_0 7 rfl
theorem dX10_freeAll_14 : decode cX10_freeAll 14 = .ok (.iconst 0, 1) := dd_get dm_X10_freeAll_0 8 rfl
theorem dX10_freeAll_15 : decode cX10_freeAll 15 = .ok (.iastore, 1) := dd_get dm_X10_freeAll_0 9 rfl
theorem dX10_freeAll_16 : decode cX10_freeAll 16 = .ok (.iinc 1 1, 3) := dd_get dm_X10_freeAll_0 10 rfl
theorem dX10_freeAll_19 : decode cX10_freeAll 19 = .ok (.goto (-17), 3) := dd_get dm_X10_freeAll_0 11 rfl
theorem dX10_freeAll_22 : decode cX10_freeAll 22 = .ok (.return_, 1) := dd_get dm_X10_freeAll_0 12 rfl
theorem dm_X10_priced_0 : (([(0, .iload_n 1, 1), (1, .bipush 12, 2), (3, .idiv, 1), (4, .istore_n 2, 1), (5, .iload_n 1, 1), (6, .bipush 12, 2), (8, .irem, 1), (9, .istore_n 3, 1), (10, .aload_n 0, 1), (11, .iload_n 2, 1), (12, .iload_n 3, 1), (13, .invokevirtual 134, 3), (16, .i2l, 1), (17, .aload_n 0, 1), (18, .getfield 48, 3), (21, .iload_n 2, 1), (22, .iaload, 1), (23, .i2l, 1), (24, .ladd, 1), (25, .aload_n 0, 1), (26, .getfield 48, 3), (29, .iload_n 3, 1), (30, .iaload, 1), (31, .i2l, 1), (32, .ladd, 1), (33, .lreturn, 1)] : List (Nat × Instr × Nat)).all fun q => decide (decode cX10_priced q.1 = .ok (q.2.1, q.2.2))) = true := by decide +kernel
theorem dX10_priced_0 : decode cX10_priced 0 = .ok (.iload_n 1, 1) := dd_get dm_X10_priced_0 0 rfl
theorem dX10_priced_1 : decode cX10_priced 1 = .ok (.bipush 12, 2) := dd_get dm_X10_priced_0 1 rfl
theorem dX10_priced_3 : decode cX10_priced 3 = .ok (.idiv, 1) := dd_get dm_X10_priced_0 2 rfl
theorem dX10_priced_4 : decode cX10_priced 4 = .ok (.istore_n 2, 1) := dd_get dm_X10_priced_0 3 rfl
theorem dX10_priced_5 : decode cX10_priced 5 = .ok (.iload_n 1, 1) := dd_get dm_X10_priced_0 4 rfl
theorem dX10_priced_6 : decode cX10_priced 6 = .ok (.bipush 12, 2) := dd_get dm_X10_priced_0 5 rfl
theorem dX10_priced_8 : decode cX10_priced 8 = .ok (.irem, 1) := dd_get dm_X10_priced_0 6 rfl
theorem dX10_priced_9 : decode cX10_priced 9 = .ok (.istore_n 3, 1) := dd_get dm_X10_priced_0 7 rfl
theorem dX10_priced_10 : decode cX10_priced 10 = .ok (.aload_n 0, 1) := dd_get dm_X10_priced_0 8 rfl
theorem dX10_priced_11 : decode cX10_priced 11 = .ok (.iload_n 2, 1) := dd_get dm_X10_priced_0 9 rfl
theorem dX10_priced_12 : decode cX10_priced 12 = .ok (.iload_n 3, 1) := dd_get dm_X10_priced_0 10 rfl
theorem dX10_priced_13 : decode cX10_priced 13 = .ok (.invokevirtual 134, 3) := dd_get dm_X10_priced_0 11 rfl
theorem dX10_priced_16 : decode cX10_priced 16 = .ok (.i2l, 1) := dd_get dm_X10_priced_0 12 rfl
theorem dX10_priced_17 : decode cX10_priced 17 = .ok (.aload_n 0, 1) := dd_get dm_X10_priced_0 13 rfl
theorem dX10_priced_18 : decode cX10_priced 18 = .ok (.getfield 48, 3) := dd_get dm_X10_priced_0 14 rfl
theorem dX10_priced_21 : decode cX10_priced 21 = .ok (.iload_n 2, 1) := dd_get dm_X10_priced_0 15 rfl
theorem dX10_priced_22 : decode cX10_priced 22 = .ok (.iaload, 1) := dd_get dm_X10_priced_0 16 rfl
theorem dX10_priced_23 : decode cX10_priced 23 = .ok (.i2l, 1) := dd_get dm_X10_priced_0 17 rfl
theorem dX10_priced_24 : decode cX10_priced 24 = .ok (.ladd, 1) := dd_get dm_X10_priced_0 18 rfl
theorem dX10_priced_25 : decode cX10_priced 25 = .ok (.aload_n 0, 1) := dd_get dm_X10_priced_0 19 rfl
theorem dX10_priced_26 : decode cX10_priced 26 = .ok (.getfield 48, 3) := dd_get dm_X10_priced_0 20 rfl
theorem dX10_priced_29 : decode cX10_priced 29 = .ok (.iload_n 3, 1) := dd_get dm_X10_priced_0 21 rfl
theorem dX10_priced_30 : decode cX10_priced 30 = .ok (.iaload, 1) := dd_get dm_X10_priced_0 22 rfl
theorem dX10_priced_31 : decode cX10_priced 31 = .ok (.i2l, 1) := dd_get dm_X10_priced_0 23 rfl
theorem dX10_priced_32 : decode cX10_priced 32 = .ok (.ladd, 1) := dd_get dm_X10_priced_0 24 rfl
theorem dX10_priced_33 : decode cX10_priced 33 = .ok (.lreturn, 1) := dd_get dm_X10_priced_0 25 rfl
theorem dm_X10_isPair_0 : (([(0, .iload_n 1, 1), (1, .bipush 12, 2), (3, .idiv, 1), (4, .iload_n 1, 1), (5, .bipush 12, 2), (7, .irem, 1), (8, .if_icmp .ge 29, 3), (11, .aload_n 0, 1), (12, .iload_n 1, 1), (13, .bipush 12, 2), (15, .idiv, 1), (16, .invokevirtual 186, 3), (19, .ifCond .eq 18, 3), (22, .aload_n 0, 1), (23, .iload_n 1, 1), (24, .bipush 12, 2), (26, .irem, 1), (27, .invokevirtual 186, 3), (30, .ifCond .eq 7, 3), (33, .iconst 1, 1), (34, .goto 4, 3), (37, .iconst 0, 1), (38, .ireturn, 1)] : List (Nat × Instr × Nat)).all fun q => decide (decode cX10_isPair q.1 = .ok (q.2.1, q.2.2))) = true := by decide +kernel
theorem dX10_isPair_0 : decode cX10_isPair 0 = .ok (.iload_n 1, 1) := dd_get dm_X10_isPair_0 0 rfl
theorem dX10_isPair_1 : decode cX10_isPair 1 = .ok (.bipush 12, 2) := dd_get dm_X10_isPair_0 1 rfl
theorem dX10_isPair_3 : decode cX10_isPair 3 = .ok (.idiv, 1) := dd_get dm_X10_isPair_0 2 rfl
theorem dX10_isPair_4 : decode cX10_isPair 4 = .ok (.iload_n 1, 1) := dd_get dm_X10_isPair_0 3 rfl
theorem dX10_isPair_5 : decode cX10_isPair 5 = .ok (.bipush 12, 2) := dd_get dm_X10_isPair_0 4 rfl
theorem dX10_isPair_7 : decode cX10_isPair 7 = .ok (.irem, 1) := dd_get dm_X10_isPair_0 5 rfl
theorem dX10_isPair_8 : decode cX10_isPair 8 = .ok (.if_icmp .ge 29, 3) := dd_get dm_X10_isPair_0 6 rfl
theorem dX10_isPair_11 : decode cX10_isPair 11 = .ok (.aload_n 0, 1) := dd_get dm_X10_isPair_0 7 rfl
theorem dX10_isPair_12 : decode cX10_isPair 12 = .ok (.iload_n 1, 1) := dd_get dm_X10_isPair_0 8 rfl
theorem dX10_isPair_13 : decode cX10_isPair 13 = .ok (.bipush 12, 2) := dd_get dm_X10_isPair_0 9 rfl
theorem dX10_isPair_15 : decode cX10_isPair 15 = .ok (.idiv, 1) := dd_get dm_X10_isPair_0 10 rfl
theorem dX10_isPair_16 : decode cX10_isPair 16 = .ok (.invokevirtual 186, 3) := dd_get dm_X10_isPair_0 11 rfl
theorem dX10_isPair_19 : decode cX10_isPair 19 = .ok (.ifCond .eq 18, 3) := dd_get dm_X10_isPair_0 12 rfl
theorem dX10_isPair_22 : decode cX10_isPair 22 = .ok (.aload_n 0, 1) := dd_get dm_X10_isPair_0 13 rfl
theorem dX10_isPair_23 : decode cX10_isPair 23 = .ok (.iload_n 1, 1) := dd_get dm_X10_isPair_0 14 rfl
theorem dX10_isPair_24 : decode cX10_isPair 24 = .ok (.bipush 12, 2) := dd_get dm_X10_isPair_0 15 rfl
theorem dX10_isPair_26 : decode cX10_isPair 26 = .ok (.irem, 1) := dd_get dm_X10_isPair_0 16 rfl
theorem dX10_isPair_27 : decode cX10_isPair 27 = .ok (.invokevirtual 186, 3) := dd_get dm_X10_isPair_0 17 rfl
theorem dX10_isPair_30 : decode cX10_isPair 30 = .ok (.ifCond .eq 7, 3) := dd_get dm_X10_isPair_0 18 rfl
theorem dX10_isPair_33 : decode cX10_isPair 33 = .ok (.iconst 1, 1) := dd_get dm_X10_isPair_0 19 rfl
theorem dX10_isPair_34 : decode cX10_isPair 34 = .ok (.goto 4, 3) := dd_get dm_X10_isPair_0 20 rfl
theorem dX10_isPair_37 : decode cX10_isPair 37 = .ok (.iconst 0, 1) := dd_get dm_X10_isPair_0 21 rfl
theorem dX10_isPair_38 : decode cX10_isPair 38 = .ok (.ireturn, 1) := dd_get dm_X10_isPair_0 22 rfl
theorem dm_X10_hasWay_0 : (([(0, .aload_n 0, 1), (1, .iload_n 1, 1), (2, .bipush 12, 2), (4, .idiv, 1), (5, .iload_n 1, 1), (6, .bipush 12, 2), (8, .irem, 1), (9, .invokevirtual 134, 3), (12, .ldc 102, 2), (14, .if_icmp .eq 7, 3), (17, .iconst 1, 1), (18, .goto 4, 3), (21, .iconst 0, 1), (22, .ireturn, 1)] : List (Nat × Instr × Nat)).all fun q => decide (decode cX10_hasWay q.1 = .ok (q.2.1, q.2.2))) = true := by decide +kernel
theorem dX10_hasWay_0 : decode cX10_hasWay 0 = .ok (.aload_n 0, 1) := dd_get dm_X10_hasWay_0 0 rfl
theorem dX10_hasWay_1 : decode cX10_hasWay 1 = .ok (.iload_n 1, 1) := dd_get dm_X10_hasWay_0 1 rfl
theorem dX10_hasWay_2 : decode cX10_hasWay 2 = .ok (.bipush 12, 2) := dd_get dm_X10_hasWay_0 2 rfl
theorem dX10_hasWay_4 : decode cX10_hasWay 4 = .ok (.idiv, 1) := dd_get dm_X10_hasWay_0 3 rfl
theorem dX10_hasWay_5 : decode cX10_hasWay 5 = .ok (.iload_n 1, 1) := dd_get dm_X10_hasWay_0 4 rfl
theorem dX10_hasWay_6 : decode cX10_hasWay 6 = .ok (.bipush 12, 2) := dd_get dm_X10_hasWay_0 5 rfl
theorem dX10_hasWay_8 : decode cX10_hasWay 8 = .ok (.irem, 1) := dd_get dm_X10_hasWay_0 6 rfl
theorem dX10_hasWay_9 : decode cX10_hasWay 9 = .ok (.invokevirtual 134, 3) := dd_get dm_X10_hasWay_0 7 rfl
theorem dX10_hasWay_12 : decode cX10_hasWay 12 = .ok (.ldc 102, 2) := dd_get dm_X10_hasWay_0 8 rfl
theorem dX10_hasWay_14 : decode cX10_hasWay 14 = .ok (.if_icmp .eq 7, 3) := dd_get dm_X10_hasWay_0 9 rfl
theorem dX10_hasWay_17 : decode cX10_hasWay 17 = .ok (.iconst 1, 1) := dd_get dm_X10_hasWay_0 10 rfl
theorem dX10_hasWay_18 : decode cX10_hasWay 18 = .ok (.goto 4, 3) := dd_get dm_X10_hasWay_0 11 rfl
theorem dX10_hasWay_21 : decode cX10_hasWay 21 = .ok (.iconst 0, 1) := dd_get dm_X10_hasWay_0 12 rfl
theorem dX10_hasWay_22 : decode cX10_hasWay 22 = .ok (.ireturn, 1) := dd_get dm_X10_hasWay_0 13 rfl
theorem dm_X10_isAhead_0 : (([(0, .aload_n 0, 1), (1, .getfield 72, 3), (4, .iload_n 1, 1), (5, .iaload, 1), (6, .aload_n 0, 1), (7, .getfield 72, 3), (10, .iload_n 2, 1), (11, .iaload, 1), (12, .if_icmp .eq 39, 3), (15, .aload_n 0, 1), (16, .getfield 72, 3), (19, .iload_n 1, 1), (20, .iaload, 1), (21, .iconst 1, 1), (22, .if_icmp .eq 13, 3), (25, .aload_n 0, 1), (26, .getfield 72, 3), (29, .iload_n 2, 1), (30, .iaload, 1), (31, .iconst 1, 1), (32, .if_icmp .ne 19, 3), (35, .aload_n 0, 1), (36, .getfield 72, 3), (39, .iload_n 1, 1), (40, .iaload, 1), (41, .iconst 1, 1), (42, .if_icmp .ne 7, 3), (45, .iconst 1, 1), (46, .goto 4, 3), (49, .iconst 0, 1), (50, .ireturn, 1), (51, .aload_n 0, 1), (52, .iload_n 1, 1), (53, .invokevirtual 197, 3), (56, .aload_n 0, 1), (57, .iload_n 2, 1), (58, .invokevirtual 197, 3), (61, .lcmp, 1), (62, .ifCond .eq 25, 3), (65, .aload_n 0, 1), (66, .iload_n 1, 1), (67, .invokevirtual 197, 3), (70, .aload_n 0, 1), (71, .iload_n 2, 1), (72, .invokevirtual 197, 3), (75, .lcmp, 1), (76, .ifCond .ge 7, 3), (79, .iconst 1, 1), (80, .goto 17, 3), (83, .iconst 0, 1), (84, .goto 13, 3), (87, .iload_n 1, 1), (88, .iload_n 2, 1), (89, .if_icmp .ge 7, 3), (92, .iconst 1, 1), (93, .goto 4, 3), (96, .iconst 0, 1), (97, .ireturn, 1)] : List (Nat × Instr × Nat)).all fun q => decide (decode cX10_isAhead q.1 = .ok (q.2.1, q.2.2))) = true := by decide +kernel
theorem dX10_isAhead_0 : decode cX10_isAhead 0 = .ok (.aload_n 0, 1) := dd_get dm_X10_isAhead_0 0 rfl
theorem dX10_isAhead_1 : decode cX10_isAhead 1 = .ok (.getfield 72, 3) := dd_get dm_X10_isAhead_0 1 rfl
theorem dX10_isAhead_4 : decode cX10_isAhead 4 = .ok (.iload_n 1, 1) := dd_get dm_X10_isAhead_0 2 rfl
theorem dX10_isAhead_5 : decode cX10_isAhead 5 = .ok (.iaload, 1) := dd_get dm_X10_isAhead_0 3 rfl
theorem dX10_isAhead_6 : decode cX10_isAhead 6 = .ok (.aload_n 0, 1) := dd_get dm_X10_isAhead_0 4 rfl
theorem dX10_isAhead_7 : decode cX10_isAhead 7 = .ok (.getfield 72, 3) := dd_get dm_X10_isAhead_0 5 rfl
theorem dX10_isAhead_10 : decode cX10_isAhead 10 = .ok (.iload_n 2, 1) := dd_get dm_X10_isAhead_0 6 rfl
theorem dX10_isAhead_11 : decode cX10_isAhead 11 = .ok (.iaload, 1) := dd_get dm_X10_isAhead_0 7 rfl
theorem dX10_isAhead_12 : decode cX10_isAhead 12 = .ok (.if_icmp .eq 39, 3) := dd_get dm_X10_isAhead_0 8 rfl
theorem dX10_isAhead_15 : decode cX10_isAhead 15 = .ok (.aload_n 0, 1) := dd_get dm_X10_isAhead_0 9 rfl
theorem dX10_isAhead_16 : decode cX10_isAhead 16 = .ok (.getfield 72, 3) := dd_get dm_X10_isAhead_0 10 rfl
theorem dX10_isAhead_19 : decode cX10_isAhead 19 = .ok (.iload_n 1, 1) := dd_get dm_X10_isAhead_0 11 rfl
theorem dX10_isAhead_20 : decode cX10_isAhead 20 = .ok (.iaload, 1) := dd_get dm_X10_isAhead_0 12 rfl
theorem dX10_isAhead_21 : decode cX10_isAhead 21 = .ok (.iconst 1, 1) := dd_get dm_X10_isAhead_0 13 rfl
theorem dX10_isAhead_22 : decode cX10_isAhead 22 = .ok (.if_icmp .eq 13, 3) := dd_get dm_X10_isAhead_0 14 rfl
theorem dX10_isAhead_25 : decode cX10_isAhead 25 = .ok (.aload_n 0, 1) := dd_get dm_X10_isAhead_0 15 rfl
theorem dX10_isAhead_26 : decode cX10_isAhead 26 = .ok (.getfield 72, 3) := dd_get dm_X10_isAhead_0 16 rfl
theorem dX10_isAhead_29 : decode cX10_isAhead 29 = .ok (.iload_n 2, 1) := dd_get dm_X10_isAhead_0 17 rfl
theorem dX10_isAhead_30 : decode cX10_isAhead 30 = .ok (.iaload, 1) := dd_get dm_X10_isAhead_0 18 rfl
theorem dX10_isAhead_31 : decode cX10_isAhead 31 = .ok (.iconst 1, 1) := dd_get dm_X10_isAhead_0 19 rfl
theorem dX10_isAhead_32 : decode cX10_isAhead 32 = .ok (.if_icmp .ne 19, 3) := dd_get dm_X10_isAhead_0 20 rfl
theorem dX10_isAhead_35 : decode cX10_isAhead 35 = .ok (.aload_n 0, 1) := dd_get dm_X10_isAhead_0 21 rfl
theorem dX10_isAhead_36 : decode cX10_isAhead 36 = .ok (.getfield 72, 3) := dd_get dm_X10_isAhead_0 22 rfl
theorem dX10_isAhead_39 : decode cX10_isAhead 39 = .ok (.iload_n 1, 1) := dd_get dm_X10_isAhead_0 23 rfl
theorem dX10_isAhead_40 : decode cX10_isAhead 40 = .ok (.iaload, 1) := dd_get dm_X10_isAhead_0 24 rfl
theorem dX10_isAhead_41 : decode cX10_isAhead 41 = .ok (.iconst 1, 1) := dd_get dm_X10_isAhead_0 25 rfl
theorem dX10_isAhead_42 : decode cX10_isAhead 42 = .ok (.if_icmp .ne 7, 3) := dd_get dm_X10_isAhead_0 26 rfl
theorem dX10_isAhead_45 : decode cX10_isAhead 45 = .ok (.iconst 1, 1) := dd_get dm_X10_isAhead_0 27 rfl
theorem dX10_isAhead_46 : decode cX10_isAhead 46 = .ok (.goto 4, 3) := dd_get dm_X10_isAhead_0 28 rfl
theorem dX10_isAhead_49 : decode cX10_isAhead 49 = .ok (.iconst 0, 1) := dd_get dm_X10_isAhead_0 29 rfl
theorem dX10_isAhead_50 : decode cX10_isAhead 50 = .ok (.ireturn, 1) := dd_get dm_X10_isAhead_0 30 rfl
theorem dX10_isAhead_51 : decode cX10_isAhead 51 = .ok (.aload_n 0, 1) := dd_get dm_X10_isAhead_0 31 rfl
theorem dX10_isAhead_52 : decode cX10_isAhead 52 = .ok (.iload_n 1, 1) := dd_get dm_X10_isAhead_0 32 rfl
theorem dX10_isAhead_53 : decode cX10_isAhead 53 = .ok (.invokevirtual 197, 3) := dd_get dm_X10_isAhead_0 33 rfl
theorem dX10_isAhead_56 : decode cX10_isAhead 56 = .ok (.aload_n 0, 1) := dd_get dm_X10_isAhead_0 34 rfl
theorem dX10_isAhead_57 : decode cX10_isAhead 57 = .ok (.iload_n 2, 1) := dd_get dm_X10_isAhead_0 35 rfl
theorem dX10_isAhead_58 : decode cX10_isAhead 58 = .ok (.invokevirtual 197, 3) := dd_get dm_X10_isAhead_0 36 rfl
theorem dX10_isAhead_61 : decode cX10_isAhead 61 = .ok (.lcmp, 1) := dd_get dm_X10_isAhead_0 37 rfl
theorem dX10_isAhead_62 : decode cX10_isAhead 62 = .ok (.ifCond .eq 25, 3) := dd_get dm_X10_isAhead_0 38 rfl
theorem dX10_isAhead_65 : decode cX10_isAhead 65 = .ok (.aload_n 0, 1) := dd_get dm_X10_isAhead_0 39 rfl
theorem dX10_isAhead_66 : decode cX10_isAhead 66 = .ok (.iload_n 1, 1) := dd_get dm_X10_isAhead_0 40 rfl
theorem dX10_isAhead_67 : decode cX10_isAhead 67 = .ok (.invokevirtual 197, 3) := dd_get dm_X10_isAhead_0 41 rfl
theorem dX10_isAhead_70 : decode cX10_isAhead 70 = .ok (.aload_n 0, 1) := dd_get dm_X10_isAhead_0 42 rfl
theorem dX10_isAhead_71 : decode cX10_isAhead 71 = .ok (.iload_n 2, 1) := dd_get dm_X10_isAhead_0 43 rfl
theorem dX10_isAhead_72 : decode cX10_isAhead 72 = .ok (.invokevirtual 197, 3) := dd_get dm_X10_isAhead_0 44 rfl
theorem dX10_isAhead_75 : decode cX10_isAhead 75 = .ok (.lcmp, 1) := dd_get dm_X10_isAhead_0 45 rfl
theorem dX10_isAhead_76 : decode cX10_isAhead 76 = .ok (.ifCond .ge 7, 3) := dd_get dm_X10_isAhead_0 46 rfl
theorem dX10_isAhead_79 : decode cX10_isAhead 79 = .ok (.iconst 1, 1) := dd_get dm_X10_isAhead_0 47 rfl
theorem dX10_isAhead_80 : decode cX10_isAhead 80 = .ok (.goto 17, 3) := dd_get dm_X10_isAhead_0 48 rfl
theorem dX10_isAhead_83 : decode cX10_isAhead 83 = .ok (.iconst 0, 1) := dd_get dm_X10_isAhead_0 49 rfl
theorem dX10_isAhead_84 : decode cX10_isAhead 84 = .ok (.goto 13, 3) := dd_get dm_X10_isAhead_0 50 rfl
theorem dX10_isAhead_87 : decode cX10_isAhead 87 = .ok (.iload_n 1, 1) := dd_get dm_X10_isAhead_0 51 rfl
theorem dX10_isAhead_88 : decode cX10_isAhead 88 = .ok (.iload_n 2, 1) := dd_get dm_X10_isAhead_0 52 rfl
theorem dX10_isAhead_89 : decode cX10_isAhead 89 = .ok (.if_icmp .ge 7, 3) := dd_get dm_X10_isAhead_0 53 rfl
theorem dX10_isAhead_92 : decode cX10_isAhead 92 = .ok (.iconst 1, 1) := dd_get dm_X10_isAhead_0 54 rfl
theorem dX10_isAhead_93 : decode cX10_isAhead 93 = .ok (.goto 4, 3) := dd_get dm_X10_isAhead_0 55 rfl
theorem dX10_isAhead_96 : decode cX10_isAhead 96 = .ok (.iconst 0, 1) := dd_get dm_X10_isAhead_0 56 rfl
theorem dX10_isAhead_97 : decode cX10_isAhead 97 = .ok (.ireturn, 1) := dd_get dm_X10_isAhead_0 57 rfl
